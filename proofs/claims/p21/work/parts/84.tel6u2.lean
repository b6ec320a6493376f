/-! RANKS: the class's table of rows -/
section DY0
theorem set_J {M : aM} {a k : Nat} {x : Int64} (b c : Nat) : (aset M a k (.long x)).2.1 b c = if b = a then (if c = k then x else M.2.1 b c) else M.2.1 b c := rfl
theorem j_add {x y : Int64} (h1 : -4611686018427387904 ≤ x.toInt + y.toInt) (h2 : x.toInt + y.toInt ≤ 4611686018427387904) : (x + y).toInt = x.toInt + y.toInt := by
  rw [Int64.toInt_add]
  exact Int.bmod_eq_of_le (by simp; omega) (by simp; omega)
theorem j_m1 {x : Int64} : lg_cmp x (-1) = 0 ↔ x.toInt = -1 := lgc.trans ⟨fun h => by rw [h]; decide, fun h => Int64.toInt_inj.mp (h.trans (by decide))⟩
theorem j_le {x y : Int64} : lg_cmp x y ≤ 0 ↔ x.toInt ≤ y.toInt := by
  unfold lg_cmp
  by_cases h : x > y
  · rw [if_pos h]
    have h2 : y.toInt < x.toInt := Int64.lt_iff_toInt_lt.mp h
    exact ⟨fun h3 => absurd h3 (by decide), fun h3 => by omega⟩
  · rw [if_neg h]
    have h2 : ¬ y.toInt < x.toInt := fun h3 => h (Int64.lt_iff_toInt_lt.mpr h3)
    refine ⟨fun _ => by omega, fun _ => ?_⟩
    split <;> decide
def tzN (k : Nat) : Nat := ((List.range 8).find? (fun i => k.testBit i)).getD 0
theorem tz_ok : ∀ k, k < 256 → 0 < k → tzN k < 8 ∧ k.testBit (tzN k) = true ∧ ∀ w, w < 8 → (k &&& (k - 1)).testBit w = (k.testBit w && !decide (w = tzN k)) := by decide +kernel
theorem ntz_r6 : ∀ k, k < 256 → (decide (0 < k) && (decide (0 < (((nI k) ^^^ (Int32.ofInt (-1))) &&& ((nI k) - (Int32.ofInt 1)) : Int32)) && (decide ((((nI k) ^^^ (Int32.ofInt (-1))) &&& ((nI k) - (Int32.ofInt 1)) : Int32) ≤ (65536 : Int32)) && (decide ((((nI k) ^^^ (Int32.ofInt (-1))) &&& ((nI k) - (Int32.ofInt 1)) : Int32) ≤ ((Int16.ofInt 256).toInt32 : Int32)) && (decide ((((nI k) ^^^ (Int32.ofInt (-1))) &&& ((nI k) - (Int32.ofInt 1)) : Int32) ≤ ((Int8.ofInt 16).toInt32 : Int32)) && (decide ((((nI k) ^^^ (Int32.ofInt (-1))) &&& ((nI k) - (Int32.ofInt 1)) : Int32) ≤ (Int32.ofInt 4 : Int32)) && true)))))) = true → decide (((Int32.ofInt 1) + (((((nI k) ^^^ (Int32.ofInt (-1))) &&& ((nI k) - (Int32.ofInt 1))).toUInt32 >>> ((Int32.ofInt 1).toUInt32 &&& Int32.toUInt32 31)).toInt32) : Int32) = nI (tzN k)) = true := by decide +kernel
theorem ntz_r7 : ∀ k, k < 256 → (decide (0 < k) && (decide (0 < (((nI k) ^^^ (Int32.ofInt (-1))) &&& ((nI k) - (Int32.ofInt 1)) : Int32)) && (decide ((((nI k) ^^^ (Int32.ofInt (-1))) &&& ((nI k) - (Int32.ofInt 1)) : Int32) ≤ (65536 : Int32)) && (decide ((((nI k) ^^^ (Int32.ofInt (-1))) &&& ((nI k) - (Int32.ofInt 1)) : Int32) ≤ ((Int16.ofInt 256).toInt32 : Int32)) && (decide ((((nI k) ^^^ (Int32.ofInt (-1))) &&& ((nI k) - (Int32.ofInt 1)) : Int32) ≤ ((Int8.ofInt 16).toInt32 : Int32)) && (decide (¬ ((((nI k) ^^^ (Int32.ofInt (-1))) &&& ((nI k) - (Int32.ofInt 1)) : Int32) ≤ (Int32.ofInt 4 : Int32))) && true)))))) = true → decide ((((Int32.ofInt 1) + Int32.ofInt 2) + (((((((nI k) ^^^ (Int32.ofInt (-1))) &&& ((nI k) - (Int32.ofInt 1))).toUInt32 >>> ((Int32.ofInt 2).toUInt32 &&& Int32.toUInt32 31)).toInt32).toUInt32 >>> ((Int32.ofInt 1).toUInt32 &&& Int32.toUInt32 31)).toInt32) : Int32) = nI (tzN k)) = true := by decide +kernel
theorem ntz_r9 : ∀ k, k < 256 → (decide (0 < k) && (decide (0 < (((nI k) ^^^ (Int32.ofInt (-1))) &&& ((nI k) - (Int32.ofInt 1)) : Int32)) && (decide ((((nI k) ^^^ (Int32.ofInt (-1))) &&& ((nI k) - (Int32.ofInt 1)) : Int32) ≤ (65536 : Int32)) && (decide ((((nI k) ^^^ (Int32.ofInt (-1))) &&& ((nI k) - (Int32.ofInt 1)) : Int32) ≤ ((Int16.ofInt 256).toInt32 : Int32)) && (decide (¬ ((((nI k) ^^^ (Int32.ofInt (-1))) &&& ((nI k) - (Int32.ofInt 1)) : Int32) ≤ ((Int8.ofInt 16).toInt32 : Int32))) && (decide ((((((nI k) ^^^ (Int32.ofInt (-1))) &&& ((nI k) - (Int32.ofInt 1))).toUInt32 >>> ((Int32.ofInt 4).toUInt32 &&& Int32.toUInt32 31)).toInt32 : Int32) ≤ (Int32.ofInt 4 : Int32)) && true)))))) = true → decide ((((Int32.ofInt 1) + Int32.ofInt 4) + (((((((nI k) ^^^ (Int32.ofInt (-1))) &&& ((nI k) - (Int32.ofInt 1))).toUInt32 >>> ((Int32.ofInt 4).toUInt32 &&& Int32.toUInt32 31)).toInt32).toUInt32 >>> ((Int32.ofInt 1).toUInt32 &&& Int32.toUInt32 31)).toInt32) : Int32) = nI (tzN k)) = true := by decide +kernel
theorem ntz_r10 : ∀ k, k < 256 → (decide (0 < k) && (decide (0 < (((nI k) ^^^ (Int32.ofInt (-1))) &&& ((nI k) - (Int32.ofInt 1)) : Int32)) && (decide ((((nI k) ^^^ (Int32.ofInt (-1))) &&& ((nI k) - (Int32.ofInt 1)) : Int32) ≤ (65536 : Int32)) && (decide ((((nI k) ^^^ (Int32.ofInt (-1))) &&& ((nI k) - (Int32.ofInt 1)) : Int32) ≤ ((Int16.ofInt 256).toInt32 : Int32)) && (decide (¬ ((((nI k) ^^^ (Int32.ofInt (-1))) &&& ((nI k) - (Int32.ofInt 1)) : Int32) ≤ ((Int8.ofInt 16).toInt32 : Int32))) && (decide (¬ ((((((nI k) ^^^ (Int32.ofInt (-1))) &&& ((nI k) - (Int32.ofInt 1))).toUInt32 >>> ((Int32.ofInt 4).toUInt32 &&& Int32.toUInt32 31)).toInt32 : Int32) ≤ (Int32.ofInt 4 : Int32))) && true)))))) = true → decide (((((Int32.ofInt 1) + Int32.ofInt 4) + Int32.ofInt 2) + (((((((((nI k) ^^^ (Int32.ofInt (-1))) &&& ((nI k) - (Int32.ofInt 1))).toUInt32 >>> ((Int32.ofInt 4).toUInt32 &&& Int32.toUInt32 31)).toInt32).toUInt32 >>> ((Int32.ofInt 2).toUInt32 &&& Int32.toUInt32 31)).toInt32).toUInt32 >>> ((Int32.ofInt 1).toUInt32 &&& Int32.toUInt32 31)).toInt32) : Int32) = nI (tzN k)) = true := by decide +kernel
theorem ntz_r13 : ∀ k, k < 256 → (decide (0 < k) && (decide (0 < (((nI k) ^^^ (Int32.ofInt (-1))) &&& ((nI k) - (Int32.ofInt 1)) : Int32)) && (decide ((((nI k) ^^^ (Int32.ofInt (-1))) &&& ((nI k) - (Int32.ofInt 1)) : Int32) ≤ (65536 : Int32)) && (decide (¬ ((((nI k) ^^^ (Int32.ofInt (-1))) &&& ((nI k) - (Int32.ofInt 1)) : Int32) ≤ ((Int16.ofInt 256).toInt32 : Int32))) && (decide ((((((nI k) ^^^ (Int32.ofInt (-1))) &&& ((nI k) - (Int32.ofInt 1))).toUInt32 >>> (((Int8.ofInt 8).toInt32).toUInt32 &&& Int32.toUInt32 31)).toInt32 : Int32) ≤ ((Int8.ofInt 16).toInt32 : Int32)) && (decide ((((((nI k) ^^^ (Int32.ofInt (-1))) &&& ((nI k) - (Int32.ofInt 1))).toUInt32 >>> (((Int8.ofInt 8).toInt32).toUInt32 &&& Int32.toUInt32 31)).toInt32 : Int32) ≤ (Int32.ofInt 4 : Int32)) && true)))))) = true → decide ((((Int32.ofInt 1) + Int32.ofInt 8) + (((((((nI k) ^^^ (Int32.ofInt (-1))) &&& ((nI k) - (Int32.ofInt 1))).toUInt32 >>> (((Int8.ofInt 8).toInt32).toUInt32 &&& Int32.toUInt32 31)).toInt32).toUInt32 >>> ((Int32.ofInt 1).toUInt32 &&& Int32.toUInt32 31)).toInt32) : Int32) = nI (tzN k)) = true := by decide +kernel
theorem ntz_r14 : ∀ k, k < 256 → (decide (0 < k) && (decide (0 < (((nI k) ^^^ (Int32.ofInt (-1))) &&& ((nI k) - (Int32.ofInt 1)) : Int32)) && (decide ((((nI k) ^^^ (Int32.ofInt (-1))) &&& ((nI k) - (Int32.ofInt 1)) : Int32) ≤ (65536 : Int32)) && (decide (¬ ((((nI k) ^^^ (Int32.ofInt (-1))) &&& ((nI k) - (Int32.ofInt 1)) : Int32) ≤ ((Int16.ofInt 256).toInt32 : Int32))) && (decide ((((((nI k) ^^^ (Int32.ofInt (-1))) &&& ((nI k) - (Int32.ofInt 1))).toUInt32 >>> (((Int8.ofInt 8).toInt32).toUInt32 &&& Int32.toUInt32 31)).toInt32 : Int32) ≤ ((Int8.ofInt 16).toInt32 : Int32)) && (decide (¬ ((((((nI k) ^^^ (Int32.ofInt (-1))) &&& ((nI k) - (Int32.ofInt 1))).toUInt32 >>> (((Int8.ofInt 8).toInt32).toUInt32 &&& Int32.toUInt32 31)).toInt32 : Int32) ≤ (Int32.ofInt 4 : Int32))) && true)))))) = true → decide (((((Int32.ofInt 1) + Int32.ofInt 8) + Int32.ofInt 2) + (((((((((nI k) ^^^ (Int32.ofInt (-1))) &&& ((nI k) - (Int32.ofInt 1))).toUInt32 >>> (((Int8.ofInt 8).toInt32).toUInt32 &&& Int32.toUInt32 31)).toInt32).toUInt32 >>> ((Int32.ofInt 2).toUInt32 &&& Int32.toUInt32 31)).toInt32).toUInt32 >>> ((Int32.ofInt 1).toUInt32 &&& Int32.toUInt32 31)).toInt32) : Int32) = nI (tzN k)) = true := by decide +kernel
theorem ntz_r16 : ∀ k, k < 256 → (decide (0 < k) && (decide (0 < (((nI k) ^^^ (Int32.ofInt (-1))) &&& ((nI k) - (Int32.ofInt 1)) : Int32)) && (decide ((((nI k) ^^^ (Int32.ofInt (-1))) &&& ((nI k) - (Int32.ofInt 1)) : Int32) ≤ (65536 : Int32)) && (decide (¬ ((((nI k) ^^^ (Int32.ofInt (-1))) &&& ((nI k) - (Int32.ofInt 1)) : Int32) ≤ ((Int16.ofInt 256).toInt32 : Int32))) && (decide (¬ ((((((nI k) ^^^ (Int32.ofInt (-1))) &&& ((nI k) - (Int32.ofInt 1))).toUInt32 >>> (((Int8.ofInt 8).toInt32).toUInt32 &&& Int32.toUInt32 31)).toInt32 : Int32) ≤ ((Int8.ofInt 16).toInt32 : Int32))) && (decide ((((((((nI k) ^^^ (Int32.ofInt (-1))) &&& ((nI k) - (Int32.ofInt 1))).toUInt32 >>> (((Int8.ofInt 8).toInt32).toUInt32 &&& Int32.toUInt32 31)).toInt32).toUInt32 >>> ((Int32.ofInt 4).toUInt32 &&& Int32.toUInt32 31)).toInt32 : Int32) ≤ (Int32.ofInt 4 : Int32)) && true)))))) = true → decide (((((Int32.ofInt 1) + Int32.ofInt 8) + Int32.ofInt 4) + (((((((((nI k) ^^^ (Int32.ofInt (-1))) &&& ((nI k) - (Int32.ofInt 1))).toUInt32 >>> (((Int8.ofInt 8).toInt32).toUInt32 &&& Int32.toUInt32 31)).toInt32).toUInt32 >>> ((Int32.ofInt 4).toUInt32 &&& Int32.toUInt32 31)).toInt32).toUInt32 >>> ((Int32.ofInt 1).toUInt32 &&& Int32.toUInt32 31)).toInt32) : Int32) = nI (tzN k)) = true := by decide +kernel
theorem ntz_r17 : ∀ k, k < 256 → (decide (0 < k) && (decide (0 < (((nI k) ^^^ (Int32.ofInt (-1))) &&& ((nI k) - (Int32.ofInt 1)) : Int32)) && (decide ((((nI k) ^^^ (Int32.ofInt (-1))) &&& ((nI k) - (Int32.ofInt 1)) : Int32) ≤ (65536 : Int32)) && (decide (¬ ((((nI k) ^^^ (Int32.ofInt (-1))) &&& ((nI k) - (Int32.ofInt 1)) : Int32) ≤ ((Int16.ofInt 256).toInt32 : Int32))) && (decide (¬ ((((((nI k) ^^^ (Int32.ofInt (-1))) &&& ((nI k) - (Int32.ofInt 1))).toUInt32 >>> (((Int8.ofInt 8).toInt32).toUInt32 &&& Int32.toUInt32 31)).toInt32 : Int32) ≤ ((Int8.ofInt 16).toInt32 : Int32))) && (decide (¬ ((((((((nI k) ^^^ (Int32.ofInt (-1))) &&& ((nI k) - (Int32.ofInt 1))).toUInt32 >>> (((Int8.ofInt 8).toInt32).toUInt32 &&& Int32.toUInt32 31)).toInt32).toUInt32 >>> ((Int32.ofInt 4).toUInt32 &&& Int32.toUInt32 31)).toInt32 : Int32) ≤ (Int32.ofInt 4 : Int32))) && true)))))) = true → decide ((((((Int32.ofInt 1) + Int32.ofInt 8) + Int32.ofInt 4) + Int32.ofInt 2) + (((((((((((nI k) ^^^ (Int32.ofInt (-1))) &&& ((nI k) - (Int32.ofInt 1))).toUInt32 >>> (((Int8.ofInt 8).toInt32).toUInt32 &&& Int32.toUInt32 31)).toInt32).toUInt32 >>> ((Int32.ofInt 4).toUInt32 &&& Int32.toUInt32 31)).toInt32).toUInt32 >>> ((Int32.ofInt 2).toUInt32 &&& Int32.toUInt32 31)).toInt32).toUInt32 >>> ((Int32.ofInt 1).toUInt32 &&& Int32.toUInt32 31)).toInt32) : Int32) = nI (tzN k)) = true := by decide +kernel
theorem ntz_r21 : ∀ k, k < 256 → (decide (0 < k) && (decide (0 < (((nI k) ^^^ (Int32.ofInt (-1))) &&& ((nI k) - (Int32.ofInt 1)) : Int32)) && (decide (¬ ((((nI k) ^^^ (Int32.ofInt (-1))) &&& ((nI k) - (Int32.ofInt 1)) : Int32) ≤ (65536 : Int32))) && (decide ((((((nI k) ^^^ (Int32.ofInt (-1))) &&& ((nI k) - (Int32.ofInt 1))).toUInt32 >>> (((Int8.ofInt 16).toInt32).toUInt32 &&& Int32.toUInt32 31)).toInt32 : Int32) ≤ ((Int16.ofInt 256).toInt32 : Int32)) && (decide ((((((nI k) ^^^ (Int32.ofInt (-1))) &&& ((nI k) - (Int32.ofInt 1))).toUInt32 >>> (((Int8.ofInt 16).toInt32).toUInt32 &&& Int32.toUInt32 31)).toInt32 : Int32) ≤ ((Int8.ofInt 16).toInt32 : Int32)) && (decide ((((((nI k) ^^^ (Int32.ofInt (-1))) &&& ((nI k) - (Int32.ofInt 1))).toUInt32 >>> (((Int8.ofInt 16).toInt32).toUInt32 &&& Int32.toUInt32 31)).toInt32 : Int32) ≤ (Int32.ofInt 4 : Int32)) && true)))))) = true → decide ((((Int32.ofInt 1) + Int32.ofInt 16) + (((((((nI k) ^^^ (Int32.ofInt (-1))) &&& ((nI k) - (Int32.ofInt 1))).toUInt32 >>> (((Int8.ofInt 16).toInt32).toUInt32 &&& Int32.toUInt32 31)).toInt32).toUInt32 >>> ((Int32.ofInt 1).toUInt32 &&& Int32.toUInt32 31)).toInt32) : Int32) = nI (tzN k)) = true := by decide +kernel
theorem ntz_r22 : ∀ k, k < 256 → (decide (0 < k) && (decide (0 < (((nI k) ^^^ (Int32.ofInt (-1))) &&& ((nI k) - (Int32.ofInt 1)) : Int32)) && (decide (¬ ((((nI k) ^^^ (Int32.ofInt (-1))) &&& ((nI k) - (Int32.ofInt 1)) : Int32) ≤ (65536 : Int32))) && (decide ((((((nI k) ^^^ (Int32.ofInt (-1))) &&& ((nI k) - (Int32.ofInt 1))).toUInt32 >>> (((Int8.ofInt 16).toInt32).toUInt32 &&& Int32.toUInt32 31)).toInt32 : Int32) ≤ ((Int16.ofInt 256).toInt32 : Int32)) && (decide ((((((nI k) ^^^ (Int32.ofInt (-1))) &&& ((nI k) - (Int32.ofInt 1))).toUInt32 >>> (((Int8.ofInt 16).toInt32).toUInt32 &&& Int32.toUInt32 31)).toInt32 : Int32) ≤ ((Int8.ofInt 16).toInt32 : Int32)) && (decide (¬ ((((((nI k) ^^^ (Int32.ofInt (-1))) &&& ((nI k) - (Int32.ofInt 1))).toUInt32 >>> (((Int8.ofInt 16).toInt32).toUInt32 &&& Int32.toUInt32 31)).toInt32 : Int32) ≤ (Int32.ofInt 4 : Int32))) && true)))))) = true → decide (((((Int32.ofInt 1) + Int32.ofInt 16) + Int32.ofInt 2) + (((((((((nI k) ^^^ (Int32.ofInt (-1))) &&& ((nI k) - (Int32.ofInt 1))).toUInt32 >>> (((Int8.ofInt 16).toInt32).toUInt32 &&& Int32.toUInt32 31)).toInt32).toUInt32 >>> ((Int32.ofInt 2).toUInt32 &&& Int32.toUInt32 31)).toInt32).toUInt32 >>> ((Int32.ofInt 1).toUInt32 &&& Int32.toUInt32 31)).toInt32) : Int32) = nI (tzN k)) = true := by decide +kernel
theorem ntz_r24 : ∀ k, k < 256 → (decide (0 < k) && (decide (0 < (((nI k) ^^^ (Int32.ofInt (-1))) &&& ((nI k) - (Int32.ofInt 1)) : Int32)) && (decide (¬ ((((nI k) ^^^ (Int32.ofInt (-1))) &&& ((nI k) - (Int32.ofInt 1)) : Int32) ≤ (65536 : Int32))) && (decide ((((((nI k) ^^^ (Int32.ofInt (-1))) &&& ((nI k) - (Int32.ofInt 1))).toUInt32 >>> (((Int8.ofInt 16).toInt32).toUInt32 &&& Int32.toUInt32 31)).toInt32 : Int32) ≤ ((Int16.ofInt 256).toInt32 : Int32)) && (decide (¬ ((((((nI k) ^^^ (Int32.ofInt (-1))) &&& ((nI k) - (Int32.ofInt 1))).toUInt32 >>> (((Int8.ofInt 16).toInt32).toUInt32 &&& Int32.toUInt32 31)).toInt32 : Int32) ≤ ((Int8.ofInt 16).toInt32 : Int32))) && (decide ((((((((nI k) ^^^ (Int32.ofInt (-1))) &&& ((nI k) - (Int32.ofInt 1))).toUInt32 >>> (((Int8.ofInt 16).toInt32).toUInt32 &&& Int32.toUInt32 31)).toInt32).toUInt32 >>> ((Int32.ofInt 4).toUInt32 &&& Int32.toUInt32 31)).toInt32 : Int32) ≤ (Int32.ofInt 4 : Int32)) && true)))))) = true → decide (((((Int32.ofInt 1) + Int32.ofInt 16) + Int32.ofInt 4) + (((((((((nI k) ^^^ (Int32.ofInt (-1))) &&& ((nI k) - (Int32.ofInt 1))).toUInt32 >>> (((Int8.ofInt 16).toInt32).toUInt32 &&& Int32.toUInt32 31)).toInt32).toUInt32 >>> ((Int32.ofInt 4).toUInt32 &&& Int32.toUInt32 31)).toInt32).toUInt32 >>> ((Int32.ofInt 1).toUInt32 &&& Int32.toUInt32 31)).toInt32) : Int32) = nI (tzN k)) = true := by decide +kernel
theorem ntz_r25 : ∀ k, k < 256 → (decide (0 < k) && (decide (0 < (((nI k) ^^^ (Int32.ofInt (-1))) &&& ((nI k) - (Int32.ofInt 1)) : Int32)) && (decide (¬ ((((nI k) ^^^ (Int32.ofInt (-1))) &&& ((nI k) - (Int32.ofInt 1)) : Int32) ≤ (65536 : Int32))) && (decide ((((((nI k) ^^^ (Int32.ofInt (-1))) &&& ((nI k) - (Int32.ofInt 1))).toUInt32 >>> (((Int8.ofInt 16).toInt32).toUInt32 &&& Int32.toUInt32 31)).toInt32 : Int32) ≤ ((Int16.ofInt 256).toInt32 : Int32)) && (decide (¬ ((((((nI k) ^^^ (Int32.ofInt (-1))) &&& ((nI k) - (Int32.ofInt 1))).toUInt32 >>> (((Int8.ofInt 16).toInt32).toUInt32 &&& Int32.toUInt32 31)).toInt32 : Int32) ≤ ((Int8.ofInt 16).toInt32 : Int32))) && (decide (¬ ((((((((nI k) ^^^ (Int32.ofInt (-1))) &&& ((nI k) - (Int32.ofInt 1))).toUInt32 >>> (((Int8.ofInt 16).toInt32).toUInt32 &&& Int32.toUInt32 31)).toInt32).toUInt32 >>> ((Int32.ofInt 4).toUInt32 &&& Int32.toUInt32 31)).toInt32 : Int32) ≤ (Int32.ofInt 4 : Int32))) && true)))))) = true → decide ((((((Int32.ofInt 1) + Int32.ofInt 16) + Int32.ofInt 4) + Int32.ofInt 2) + (((((((((((nI k) ^^^ (Int32.ofInt (-1))) &&& ((nI k) - (Int32.ofInt 1))).toUInt32 >>> (((Int8.ofInt 16).toInt32).toUInt32 &&& Int32.toUInt32 31)).toInt32).toUInt32 >>> ((Int32.ofInt 4).toUInt32 &&& Int32.toUInt32 31)).toInt32).toUInt32 >>> ((Int32.ofInt 2).toUInt32 &&& Int32.toUInt32 31)).toInt32).toUInt32 >>> ((Int32.ofInt 1).toUInt32 &&& Int32.toUInt32 31)).toInt32) : Int32) = nI (tzN k)) = true := by decide +kernel
theorem ntz_r28 : ∀ k, k < 256 → (decide (0 < k) && (decide (0 < (((nI k) ^^^ (Int32.ofInt (-1))) &&& ((nI k) - (Int32.ofInt 1)) : Int32)) && (decide (¬ ((((nI k) ^^^ (Int32.ofInt (-1))) &&& ((nI k) - (Int32.ofInt 1)) : Int32) ≤ (65536 : Int32))) && (decide (¬ ((((((nI k) ^^^ (Int32.ofInt (-1))) &&& ((nI k) - (Int32.ofInt 1))).toUInt32 >>> (((Int8.ofInt 16).toInt32).toUInt32 &&& Int32.toUInt32 31)).toInt32 : Int32) ≤ ((Int16.ofInt 256).toInt32 : Int32))) && (decide ((((((((nI k) ^^^ (Int32.ofInt (-1))) &&& ((nI k) - (Int32.ofInt 1))).toUInt32 >>> (((Int8.ofInt 16).toInt32).toUInt32 &&& Int32.toUInt32 31)).toInt32).toUInt32 >>> (((Int8.ofInt 8).toInt32).toUInt32 &&& Int32.toUInt32 31)).toInt32 : Int32) ≤ ((Int8.ofInt 16).toInt32 : Int32)) && (decide ((((((((nI k) ^^^ (Int32.ofInt (-1))) &&& ((nI k) - (Int32.ofInt 1))).toUInt32 >>> (((Int8.ofInt 16).toInt32).toUInt32 &&& Int32.toUInt32 31)).toInt32).toUInt32 >>> (((Int8.ofInt 8).toInt32).toUInt32 &&& Int32.toUInt32 31)).toInt32 : Int32) ≤ (Int32.ofInt 4 : Int32)) && true)))))) = true → decide (((((Int32.ofInt 1) + Int32.ofInt 16) + Int32.ofInt 8) + (((((((((nI k) ^^^ (Int32.ofInt (-1))) &&& ((nI k) - (Int32.ofInt 1))).toUInt32 >>> (((Int8.ofInt 16).toInt32).toUInt32 &&& Int32.toUInt32 31)).toInt32).toUInt32 >>> (((Int8.ofInt 8).toInt32).toUInt32 &&& Int32.toUInt32 31)).toInt32).toUInt32 >>> ((Int32.ofInt 1).toUInt32 &&& Int32.toUInt32 31)).toInt32) : Int32) = nI (tzN k)) = true := by decide +kernel
theorem ntz_r29 : ∀ k, k < 256 → (decide (0 < k) && (decide (0 < (((nI k) ^^^ (Int32.ofInt (-1))) &&& ((nI k) - (Int32.ofInt 1)) : Int32)) && (decide (¬ ((((nI k) ^^^ (Int32.ofInt (-1))) &&& ((nI k) - (Int32.ofInt 1)) : Int32) ≤ (65536 : Int32))) && (decide (¬ ((((((nI k) ^^^ (Int32.ofInt (-1))) &&& ((nI k) - (Int32.ofInt 1))).toUInt32 >>> (((Int8.ofInt 16).toInt32).toUInt32 &&& Int32.toUInt32 31)).toInt32 : Int32) ≤ ((Int16.ofInt 256).toInt32 : Int32))) && (decide ((((((((nI k) ^^^ (Int32.ofInt (-1))) &&& ((nI k) - (Int32.ofInt 1))).toUInt32 >>> (((Int8.ofInt 16).toInt32).toUInt32 &&& Int32.toUInt32 31)).toInt32).toUInt32 >>> (((Int8.ofInt 8).toInt32).toUInt32 &&& Int32.toUInt32 31)).toInt32 : Int32) ≤ ((Int8.ofInt 16).toInt32 : Int32)) && (decide (¬ ((((((((nI k) ^^^ (Int32.ofInt (-1))) &&& ((nI k) - (Int32.ofInt 1))).toUInt32 >>> (((Int8.ofInt 16).toInt32).toUInt32 &&& Int32.toUInt32 31)).toInt32).toUInt32 >>> (((Int8.ofInt 8).toInt32).toUInt32 &&& Int32.toUInt32 31)).toInt32 : Int32) ≤ (Int32.ofInt 4 : Int32))) && true)))))) = true → decide ((((((Int32.ofInt 1) + Int32.ofInt 16) + Int32.ofInt 8) + Int32.ofInt 2) + (((((((((((nI k) ^^^ (Int32.ofInt (-1))) &&& ((nI k) - (Int32.ofInt 1))).toUInt32 >>> (((Int8.ofInt 16).toInt32).toUInt32 &&& Int32.toUInt32 31)).toInt32).toUInt32 >>> (((Int8.ofInt 8).toInt32).toUInt32 &&& Int32.toUInt32 31)).toInt32).toUInt32 >>> ((Int32.ofInt 2).toUInt32 &&& Int32.toUInt32 31)).toInt32).toUInt32 >>> ((Int32.ofInt 1).toUInt32 &&& Int32.toUInt32 31)).toInt32) : Int32) = nI (tzN k)) = true := by decide +kernel
theorem ntz_r31 : ∀ k, k < 256 → (decide (0 < k) && (decide (0 < (((nI k) ^^^ (Int32.ofInt (-1))) &&& ((nI k) - (Int32.ofInt 1)) : Int32)) && (decide (¬ ((((nI k) ^^^ (Int32.ofInt (-1))) &&& ((nI k) - (Int32.ofInt 1)) : Int32) ≤ (65536 : Int32))) && (decide (¬ ((((((nI k) ^^^ (Int32.ofInt (-1))) &&& ((nI k) - (Int32.ofInt 1))).toUInt32 >>> (((Int8.ofInt 16).toInt32).toUInt32 &&& Int32.toUInt32 31)).toInt32 : Int32) ≤ ((Int16.ofInt 256).toInt32 : Int32))) && (decide (¬ ((((((((nI k) ^^^ (Int32.ofInt (-1))) &&& ((nI k) - (Int32.ofInt 1))).toUInt32 >>> (((Int8.ofInt 16).toInt32).toUInt32 &&& Int32.toUInt32 31)).toInt32).toUInt32 >>> (((Int8.ofInt 8).toInt32).toUInt32 &&& Int32.toUInt32 31)).toInt32 : Int32) ≤ ((Int8.ofInt 16).toInt32 : Int32))) && (decide ((((((((((nI k) ^^^ (Int32.ofInt (-1))) &&& ((nI k) - (Int32.ofInt 1))).toUInt32 >>> (((Int8.ofInt 16).toInt32).toUInt32 &&& Int32.toUInt32 31)).toInt32).toUInt32 >>> (((Int8.ofInt 8).toInt32).toUInt32 &&& Int32.toUInt32 31)).toInt32).toUInt32 >>> ((Int32.ofInt 4).toUInt32 &&& Int32.toUInt32 31)).toInt32 : Int32) ≤ (Int32.ofInt 4 : Int32)) && true)))))) = true → decide ((((((Int32.ofInt 1) + Int32.ofInt 16) + Int32.ofInt 8) + Int32.ofInt 4) + (((((((((((nI k) ^^^ (Int32.ofInt (-1))) &&& ((nI k) - (Int32.ofInt 1))).toUInt32 >>> (((Int8.ofInt 16).toInt32).toUInt32 &&& Int32.toUInt32 31)).toInt32).toUInt32 >>> (((Int8.ofInt 8).toInt32).toUInt32 &&& Int32.toUInt32 31)).toInt32).toUInt32 >>> ((Int32.ofInt 4).toUInt32 &&& Int32.toUInt32 31)).toInt32).toUInt32 >>> ((Int32.ofInt 1).toUInt32 &&& Int32.toUInt32 31)).toInt32) : Int32) = nI (tzN k)) = true := by decide +kernel
theorem ntz_r32 : ∀ k, k < 256 → (decide (0 < k) && (decide (0 < (((nI k) ^^^ (Int32.ofInt (-1))) &&& ((nI k) - (Int32.ofInt 1)) : Int32)) && (decide (¬ ((((nI k) ^^^ (Int32.ofInt (-1))) &&& ((nI k) - (Int32.ofInt 1)) : Int32) ≤ (65536 : Int32))) && (decide (¬ ((((((nI k) ^^^ (Int32.ofInt (-1))) &&& ((nI k) - (Int32.ofInt 1))).toUInt32 >>> (((Int8.ofInt 16).toInt32).toUInt32 &&& Int32.toUInt32 31)).toInt32 : Int32) ≤ ((Int16.ofInt 256).toInt32 : Int32))) && (decide (¬ ((((((((nI k) ^^^ (Int32.ofInt (-1))) &&& ((nI k) - (Int32.ofInt 1))).toUInt32 >>> (((Int8.ofInt 16).toInt32).toUInt32 &&& Int32.toUInt32 31)).toInt32).toUInt32 >>> (((Int8.ofInt 8).toInt32).toUInt32 &&& Int32.toUInt32 31)).toInt32 : Int32) ≤ ((Int8.ofInt 16).toInt32 : Int32))) && (decide (¬ ((((((((((nI k) ^^^ (Int32.ofInt (-1))) &&& ((nI k) - (Int32.ofInt 1))).toUInt32 >>> (((Int8.ofInt 16).toInt32).toUInt32 &&& Int32.toUInt32 31)).toInt32).toUInt32 >>> (((Int8.ofInt 8).toInt32).toUInt32 &&& Int32.toUInt32 31)).toInt32).toUInt32 >>> ((Int32.ofInt 4).toUInt32 &&& Int32.toUInt32 31)).toInt32 : Int32) ≤ (Int32.ofInt 4 : Int32))) && true)))))) = true → decide (((((((Int32.ofInt 1) + Int32.ofInt 16) + Int32.ofInt 8) + Int32.ofInt 4) + Int32.ofInt 2) + (((((((((((((nI k) ^^^ (Int32.ofInt (-1))) &&& ((nI k) - (Int32.ofInt 1))).toUInt32 >>> (((Int8.ofInt 16).toInt32).toUInt32 &&& Int32.toUInt32 31)).toInt32).toUInt32 >>> (((Int8.ofInt 8).toInt32).toUInt32 &&& Int32.toUInt32 31)).toInt32).toUInt32 >>> ((Int32.ofInt 4).toUInt32 &&& Int32.toUInt32 31)).toInt32).toUInt32 >>> ((Int32.ofInt 2).toUInt32 &&& Int32.toUInt32 31)).toInt32).toUInt32 >>> ((Int32.ofInt 1).toUInt32 &&& Int32.toUInt32 31)).toInt32) : Int32) = nI (tzN k)) = true := by decide +kernel
theorem ntz_r33 : ∀ k, k < 256 → (decide (0 < k) && (decide (¬ (0 < (((nI k) ^^^ (Int32.ofInt (-1))) &&& ((nI k) - (Int32.ofInt 1)) : Int32))) && true)) = true → decide (((((nI k) ^^^ (Int32.ofInt (-1))) &&& ((nI k) - (Int32.ofInt 1))) &&& ((Int8.ofInt 32).toInt32) : Int32) = nI (tzN k)) = true := by decide +kernel
theorem gvS_tz {g : Nat → Int} {k k' z : Nat} (hz : k.testBit z = true) : ∀ n, (∀ w, w < n → k'.testBit w = (k.testBit w && !decide (w = z))) → gvS g n k = gvS g n k' + (if z < n then g z else 0)
  | 0, _ => by
    rw [if_neg (Nat.not_lt_zero _)]
    rfl
  | n + 1, h => by
    have ih := gvS_tz (g := g) (k' := k') hz n (fun w hw => h w (by omega))
    have e := h n (Nat.lt_succ_self _)
    show gvS g n k + (if k.testBit n = true then g n else 0) = gvS g n k' + (if k'.testBit n = true then g n else 0) + _
    by_cases ez : n = z
    · subst ez
      rw [decide_eq_true rfl, Bool.not_true, Bool.and_false] at e
      rw [if_neg (Nat.lt_irrefl n)] at ih
      rw [hz, if_pos rfl, e, if_neg (by decide), if_pos (Nat.lt_succ_self n), ih]
    · rw [decide_eq_false ez, Bool.not_false, Bool.and_true] at e
      rw [e, ih]
      generalize (if k.testBit n = true then g n else 0) = q
      by_cases h2 : z < n
      · rw [if_pos h2, if_pos (show z < n + 1 by omega)]
        omega
      · rw [if_neg h2, if_neg (show ¬ z < n + 1 by omega)]
        omega
theorem xor_lt {t v : Nat} (h : sbs v t) (h0 : 0 < v) : t ^^^ v < t := by
  have le : t ^^^ v ≤ t := Nat.le_of_testBit (fun i hi => by
    rw [Nat.testBit_xor] at hi
    cases e : t.testBit i with
    | true => rfl
    | false =>
      rw [e, Bool.false_xor] at hi
      rw [h i hi] at e
      cases e)
  refine Nat.lt_of_le_of_ne le fun e => ?_
  have : t ^^^ (t ^^^ v) = v := by rw [← Nat.xor_assoc, Nat.xor_self, Nat.zero_xor]
  rw [e, Nat.xor_self] at this
  omega
theorem gn_ok : ∀ s, s < 10 → ∀ p, p < 6 → ∀ w, w < 8 → ((((nI s).toInt64 <<< (((Int8.ofInt 24).toInt32).toInt64 &&& 63)) + (((((Int8.ofInt 7).toInt32) - (nI p)) <<< (((Int32.ofInt 3) * (((Int8.ofInt 7).toInt32) - (nI w))) &&& 31)).toInt64)) : Int64).toInt = 16777216 * (s : Int) + ((7 - p : Nat) : Int) * ((8 ^ (7 - w) : Nat) : Int) := by decide +kernel
end DY0
section DY1
variable {l : aL} {M : aM} {H : HS}
theorem ntz_c (hl0 : l.1.stackTraces = false) {k : Nat} (hk : k < 256) (h0 : 0 < k) : AC l (pI pg 107) (fcI M (fun y M' => M' = M ∧ y = nI (tzN k))) 0 0 [.int (nI k)] SHF M := by
  refine fw_of hl0 ⟨by decide +kernel, by decide +kernel, by decide +kernel⟩ rfl ?_
  exact ntz_0 hl0 (fun h1 h2 h3 h4 h5 => ⟨rfl, rfl, _, rfl, rfl, of_decide_eq_true (ntz_r6 k hk (by rw [decide_eq_true h0, decide_eq_true h1, decide_eq_true h2, decide_eq_true h3, decide_eq_true h4, decide_eq_true h5]; rfl))⟩) (fun h1 h2 h3 h4 h5 => ⟨rfl, rfl, _, rfl, rfl, of_decide_eq_true (ntz_r7 k hk (by rw [decide_eq_true h0, decide_eq_true h1, decide_eq_true h2, decide_eq_true h3, decide_eq_true h4, decide_eq_true h5]; rfl))⟩) (fun h1 h2 h3 h4 h8 => ⟨rfl, rfl, _, rfl, rfl, of_decide_eq_true (ntz_r9 k hk (by rw [decide_eq_true h0, decide_eq_true h1, decide_eq_true h2, decide_eq_true h3, decide_eq_true h4, decide_eq_true h8]; rfl))⟩) (fun h1 h2 h3 h4 h8 => ⟨rfl, rfl, _, rfl, rfl, of_decide_eq_true (ntz_r10 k hk (by rw [decide_eq_true h0, decide_eq_true h1, decide_eq_true h2, decide_eq_true h3, decide_eq_true h4, decide_eq_true h8]; rfl))⟩) (fun h1 h2 h3 h11 h12 => ⟨rfl, rfl, _, rfl, rfl, of_decide_eq_true (ntz_r13 k hk (by rw [decide_eq_true h0, decide_eq_true h1, decide_eq_true h2, decide_eq_true h3, decide_eq_true h11, decide_eq_true h12]; rfl))⟩) (fun h1 h2 h3 h11 h12 => ⟨rfl, rfl, _, rfl, rfl, of_decide_eq_true (ntz_r14 k hk (by rw [decide_eq_true h0, decide_eq_true h1, decide_eq_true h2, decide_eq_true h3, decide_eq_true h11, decide_eq_true h12]; rfl))⟩) (fun h1 h2 h3 h11 h15 => ⟨rfl, rfl, _, rfl, rfl, of_decide_eq_true (ntz_r16 k hk (by rw [decide_eq_true h0, decide_eq_true h1, decide_eq_true h2, decide_eq_true h3, decide_eq_true h11, decide_eq_true h15]; rfl))⟩) (fun h1 h2 h3 h11 h15 => ⟨rfl, rfl, _, rfl, rfl, of_decide_eq_true (ntz_r17 k hk (by rw [decide_eq_true h0, decide_eq_true h1, decide_eq_true h2, decide_eq_true h3, decide_eq_true h11, decide_eq_true h15]; rfl))⟩) (fun h1 h2 h18 h19 h20 => ⟨rfl, rfl, _, rfl, rfl, of_decide_eq_true (ntz_r21 k hk (by rw [decide_eq_true h0, decide_eq_true h1, decide_eq_true h2, decide_eq_true h18, decide_eq_true h19, decide_eq_true h20]; rfl))⟩) (fun h1 h2 h18 h19 h20 => ⟨rfl, rfl, _, rfl, rfl, of_decide_eq_true (ntz_r22 k hk (by rw [decide_eq_true h0, decide_eq_true h1, decide_eq_true h2, decide_eq_true h18, decide_eq_true h19, decide_eq_true h20]; rfl))⟩) (fun h1 h2 h18 h19 h23 => ⟨rfl, rfl, _, rfl, rfl, of_decide_eq_true (ntz_r24 k hk (by rw [decide_eq_true h0, decide_eq_true h1, decide_eq_true h2, decide_eq_true h18, decide_eq_true h19, decide_eq_true h23]; rfl))⟩) (fun h1 h2 h18 h19 h23 => ⟨rfl, rfl, _, rfl, rfl, of_decide_eq_true (ntz_r25 k hk (by rw [decide_eq_true h0, decide_eq_true h1, decide_eq_true h2, decide_eq_true h18, decide_eq_true h19, decide_eq_true h23]; rfl))⟩) (fun h1 h2 h18 h26 h27 => ⟨rfl, rfl, _, rfl, rfl, of_decide_eq_true (ntz_r28 k hk (by rw [decide_eq_true h0, decide_eq_true h1, decide_eq_true h2, decide_eq_true h18, decide_eq_true h26, decide_eq_true h27]; rfl))⟩) (fun h1 h2 h18 h26 h27 => ⟨rfl, rfl, _, rfl, rfl, of_decide_eq_true (ntz_r29 k hk (by rw [decide_eq_true h0, decide_eq_true h1, decide_eq_true h2, decide_eq_true h18, decide_eq_true h26, decide_eq_true h27]; rfl))⟩) (fun h1 h2 h18 h26 h30 => ⟨rfl, rfl, _, rfl, rfl, of_decide_eq_true (ntz_r31 k hk (by rw [decide_eq_true h0, decide_eq_true h1, decide_eq_true h2, decide_eq_true h18, decide_eq_true h26, decide_eq_true h30]; rfl))⟩) (fun h1 h2 h18 h26 h30 => ⟨rfl, rfl, _, rfl, rfl, of_decide_eq_true (ntz_r32 k hk (by rw [decide_eq_true h0, decide_eq_true h1, decide_eq_true h2, decide_eq_true h18, decide_eq_true h26, decide_eq_true h30]; rfl))⟩) (fun h1 => ⟨rfl, rfl, _, rfl, rfl, of_decide_eq_true (ntz_r33 k hk (by rw [decide_eq_true h0, decide_eq_true h1]; rfl))⟩)
theorem plc_c (hl0 : l.1.stackTraces = false) {x : Int32} : AC l (pI pg 104) (fcI M (fun y M' => M' = M ∧ y = (Int32.ofInt 3) * (((Int8.ofInt 7).toInt32) - x))) 0 0 [.int x] SHF M := by
  refine fw_of hl0 ⟨by decide +kernel, by decide +kernel, by decide +kernel⟩ rfl ?_
  exact plc_0 hl0 ⟨rfl, rfl, _, rfl, rfl, rfl⟩
theorem gof_c (hl0 : l.1.stackTraces = false) {s p w : Nat} (hs : s < 10) (hp : p < 6) (hw : w < 8) : AC l (pI pg 103) (fcJ M (fun y M' => M' = M ∧ y.toInt = 16777216 * (s : Int) + cdG p w)) 0 0 [.long (nI s).toInt64, .int (nI p), .int (nI w)] SHF M := by
  refine fw_of hl0 ⟨by decide +kernel, by decide +kernel, by decide +kernel⟩ rfl ?_
  refine gof_0 hl0 _ (plc_c hl0) (fun y1 M1 e1 q1 => ?_)
  obtain ⟨rfl, rfl⟩ := q1
  exact ⟨rfl, rfl, _, rfl, rfl, gn_ok s hs p hp w hw⟩
def spH (H : HS) (M : aM) : Prop := ∀ t, t < 2 ^ H.wo → ((noC H H.wo t ∧ M.1 31 t = nI (sumL H H.wo t)) ∨ (¬ noC H H.wo t ∧ M.1 31 t = nI 99))
theorem sp_fit (w8 : H.wo ≤ 8) (hs : spH H M) (hsl : ∀ t, sumL H H.wo t ≤ 64) {t m : Nat} (ht : t < 2 ^ H.wo) (hm : m ≤ 24) : nI m < M.1 31 t ↔ ¬ fit H t m := by
  have := hsl t
  rcases hs t ht with ⟨u1, u2⟩ | ⟨u1, u2⟩
  · rw [u2, nlt (by omega) (by omega)]
    exact ⟨fun h g => by have := g.2; omega, fun h => Nat.lt_of_not_le fun g => h ⟨u1, g⟩⟩
  · rw [u2, nlt (by omega) (by decide)]
    exact ⟨fun _ g => u1 g.1, fun _ => by omega⟩
def owO (H : HS) (m : Nat) (g : Nat → Int) (M : aM) (a : Nat) : Prop := (fit H a m ∧ (M.2.1 38 a).toInt = gvS g H.wo a) ∨ (¬ fit H a m ∧ (M.2.1 38 a).toInt = -1)
def QRo (H : HS) (c m : Nat) (g : Nat → Int) (M M' : aM) : Prop := (∀ a, a ≤ c → sbs a c → owO H m g M' a) ∧ M'.1 = M.1 ∧ ∀ i k, i ≠ 38 → M'.2.1 i k = M.2.1 i k
theorem gv_in {g : Nat → Int} {n t : Nat} (hn : n ≤ 8) (hg : ∀ w, w < n → 0 ≤ g w ∧ g w ≤ 268435456) : 0 ≤ gvS g n t ∧ gvS g n t ≤ 2147483648 := by
  have h1 := gvS_ge (t := t) n (fun w hw => (hg w hw).1)
  have h2 := gvS_le (t := t) (G := 268435456) (by decide) n (fun w hw => (hg w hw).2)
  exact ⟨h1, by omega⟩
theorem rwo_c (hl0 : l.1.stackTraces = false) (hR : ∀ e ∈ RWk, M.2.2 e.1 e.2.1 = e.2.2) (w8 : H.wo ≤ 8) (hs : spH H M) (hsl : ∀ t, sumL H H.wo t ≤ 64) {c m : Nat} {g : Nat → Int} (hc : c < 2 ^ H.wo) (hm : m ≤ 24) (hg : ∀ w, w < H.wo → (M.2.1 39 w).toInt = g w) (hg0 : ∀ w, w < H.wo → 0 ≤ g w ∧ g w ≤ 268435456) : AC l (pI pg 106) (fcV M (QRo H c m g M)) 0 0 [.ref 36, .ref 30, .int (nI c), .int (nI m)] SHF M := by
  have P8 := p2_8 w8
  refine fw_of hl0 ⟨by decide +kernel, by decide +kernel, by decide +kernel⟩ rfl ?_
  refine row_0 hR hl0 (vp_in_nI (n := 0) (by decide) (by decide)) ?_
  have loop : ∀ (d n : Nat) (M1 : aM), n + d = c + 1 → 1 ≤ n → M1.2.2 = M.2.2 → M1.1 = M.1 → (∀ i k, i ≠ 38 → M1.2.1 i k = M.2.1 i k) → (∀ a, a < n → sbs a c → owO H m g M1 a) → AW l (pI pg 106) (fcV M (QRo H c m g M)) 0 0 10 [(4, .int (nI n)), (3, .int (nI m)), (2, .int (nI c)), (1, .ref 30), (0, .ref 36)] [] SHF M1 := by
    intro d
    induction d with
    | zero =>
      intro n M1 hn n1 h1 h2 h3 h4
      have lt : nI c < nI n := by
        rw [nlt (by omega) (by omega)]
        omega
      exact row_10 (by rw [h1]; exact hR) hl0 (fun _ => ⟨rfl, h1, rfl, fun a ha hs => h4 a (by omega) hs, h2, h3⟩) (fun h => absurd lt h) (fun _ _ => True) (fun h => absurd lt h) (fun h => absurd lt h) (fun h => absurd lt h) (fun h => absurd lt h) (fun h => absurd lt h) (fun h => absurd lt h)
    | succ d ih =>
      intro n M1 hn n1 h1 h2 h3 h4
      have nl : ¬ nI c < nI n := by
        rw [nlt (by omega) (by omega)]
        omega
      have nx : nI n + Int32.ofInt 1 = nI (n + 1) := nI_1 n
      have cn : (nI n).toNatClampNeg = n := nI_clamp (by omega)
      obtain ⟨z1, z2, z3⟩ := tz_ok n (by omega) (by omega)
      have n2 : n < 2 ^ H.wo := by omega
      have zw : tzN n < H.wo := Nat.lt_of_not_le fun hle => by
        rw [tb_no n2 hle] at z2
        cases z2
      have cz : (nI (tzN n)).toNatClampNeg = tzN n := nI_clamp (by omega)
      have al : n &&& (n - 1) ≤ n - 1 := Nat.and_le_right
      have an : nI n &&& (nI n - Int32.ofInt 1) = nI (n &&& (n - 1)) := by
        rw [show nI n - Int32.ofInt 1 = nI (n - 1) from nI_subN (b := 1) (by omega) (by omega), nI_andN (by omega) (by omega)]
      have ca : (nI (n &&& (n - 1))).toNatClampNeg = n &&& (n - 1) := nI_clamp (by omega)
      have hs1 : spH H M1 := by
        unfold spH
        rw [h2]
        exact hs
      have fitn := sp_fit w8 hs1 hsl n2 hm
      have step : ∀ (x : Int64), (sbs n c → (fit H n m ∧ x.toInt = gvS g H.wo n) ∨ (¬ fit H n m ∧ x.toInt = -1)) → AW l (pI pg 106) (fcV M (QRo H c m g M)) 0 0 10 [(4, .int (nI (n + 1))), (3, .int (nI m)), (2, .int (nI c)), (1, .ref 30), (0, .ref 36)] [] SHF (aset M1 38 n (.long x)) := fun x hx => ih (n + 1) _ (by omega) (by omega) h1 h2 (fun i k hi => by rw [set_J, if_neg hi]; exact h3 i k hi) (fun a ha hs => by
        unfold owO
        rw [set_J, if_pos rfl]
        by_cases e : a = n
        · rw [if_pos e, e]
          rw [e] at hs
          exact hx hs
        · rw [if_neg e]
          exact h4 a (by omega) hs)
      refine row_10 (by rw [h1]; exact hR) hl0 (fun h => absurd h nl) (fun _ hn3 => ?_) (fun y M' => M' = M1 ∧ y = nI (tzN n)) (fun _ _ => ntz_c hl0 (by omega) (by omega)) (fun _ _ y5 M5 e5 q5 => ?_) (fun _ _ y5 M5 e5 q5 => vp_in_nI (by omega) (by decide)) (fun _ hn3 y5 M5 e5 q5 h9 => ?_) (fun _ _ y5 M5 e5 q5 h9 => by rw [an]; exact vp_in_nI (by omega) (by decide)) (fun _ hn3 y5 M5 e5 q5 h9 => ?_)
      · rw [and_nt n (by omega) c (by omega), ← sbs_and] at hn3
        rw [nx]
        refine ih (n + 1) M1 (by omega) (by omega) h1 h2 h3 (fun a ha hs => ?_)
        by_cases e : a = n
        · rw [e] at hs
          exact absurd hs hn3
        · exact h4 a (by omega) hs
      · obtain ⟨-, rfl⟩ := q5
        exact vp_in_nI (by omega) (by decide)
      · obtain ⟨rfl, rfl⟩ := q5
        rw [cn, fitn] at h9
        rw [nx, cn]
        exact step _ (fun _ => Or.inr ⟨h9, by decide⟩)
      · obtain ⟨rfl, rfl⟩ := q5
        rw [cn, fitn, Classical.not_not] at h9
        rw [nx, cn, an, ca, cz]
        refine step _ (fun hsn => Or.inl ⟨h9, ?_⟩)
        have sn : sbs (n &&& (n - 1)) n := fun w hw => by
          rw [Nat.testBit_and, Bool.and_eq_true] at hw
          exact hw.1
        have o1 : (M5.2.1 38 (n &&& (n - 1))).toInt = gvS g H.wo (n &&& (n - 1)) := by
          rcases h4 (n &&& (n - 1)) (by omega) (fun w hw => hsn w (sn w hw)) with ⟨-, u⟩ | ⟨u, -⟩
          · exact u
          · exact absurd (fit_mono sn h9) u
        have o2 : (M5.2.1 39 (tzN n)).toInt = g (tzN n) := by
          rw [h3 39 _ (by decide)]
          exact hg _ zw
        have b1 := gv_in (t := n &&& (n - 1)) w8 hg0
        have b2 := hg0 _ zw
        rw [j_add (by omega) (by omega), o1, o2, gvS_tz z2 H.wo (fun w hw => z3 w (by omega)), if_pos zw]
  refine loop c 1 _ (by omega) (Nat.le_refl _) rfl rfl (fun i k hi => ?_) (fun a ha hs => ?_)
  · rw [set_J, if_neg hi]
  · have e : a = 0 := by omega
    subst e
    refine Or.inl ⟨fit_0, ?_⟩
    rw [gvS_0]
    show (Int64.ofNat (0 : Fin 2)).toInt = 0
    decide
/-- one person more in the table -/
def adQ (H : HS) (c m : Nat) (g f : Nat → Int) (t : Nat) (v : Int) : Prop := (v = f t ∨ ∃ a, admA H c m f t a ∧ v = f (t ^^^ a) + gvS g H.wo a) ∧ f t ≤ v ∧ ∀ a, admA H c m f t a → f (t ^^^ a) + gvS g H.wo a ≤ v
def rkF (M : aM) (t : Nat) : Int := (M.2.1 37 t).toInt
def QAd (H : HS) (c m rch : Nat) (g : Nat → Int) (M M' : aM) : Prop := M'.1 36 3 = nI (rch ||| c) ∧ (∀ a k, (a = 36 → k ≠ 3) → M'.1 a k = M.1 a k) ∧ (∀ t, t < 2 ^ H.wo → adQ H c m g (rkF M) t (rkF M' t)) ∧ ∀ t, t < 2 ^ H.wo → ¬ sbs t (rch ||| c) → rkF M' t = rkF M t
theorem adp_c (hl0 : l.1.stackTraces = false) (hR : ∀ e ∈ RWk, M.2.2 e.1 e.2.1 = e.2.2) (w8 : H.wo ≤ 8) (hs : spH H M) (hsl : ∀ t, sumL H H.wo t ≤ 64) {c m rch : Nat} {g : Nat → Int} (hc : c < 2 ^ H.wo) (hm : m ≤ 24) (hg : ∀ w, w < H.wo → (M.2.1 39 w).toInt = g w) (hg0 : ∀ w, w < H.wo → 0 ≤ g w ∧ g w ≤ 268435456) (hrc : rch < 2 ^ H.wo) (h36 : M.1 36 3 = nI rch) (hB : ∀ t, t < 2 ^ H.wo → -1 ≤ rkF M t ∧ rkF M t ≤ 2147483648) (hr : ∀ t, t < 2 ^ H.wo → ¬ sbs t rch → rkF M t = -1) : AC l (pI pg 105) (fcV M (QAd H c m rch g M)) 0 0 [.ref 36, .ref 30, .int (nI c), .int (nI m)] SHF M := by
  have P8 := p2_8 w8
  have Rl : rch ||| c < 2 ^ H.wo := Nat.or_lt_two_pow hrc hc
  refine fw_of hl0 ⟨by decide +kernel, by decide +kernel, by decide +kernel⟩ rfl ?_
  refine adp_0 hR hl0 _ (rwo_c hl0 hR w8 hs hsl hc hm hg hg0) (fun M1 e1 q1 => ?_)
  obtain ⟨q1, q2, q3⟩ := q1
  have e3 : M1.1 36 3 ||| nI c = nI (rch ||| c) := by rw [q2, h36, nI_orN (by omega) (by omega)]
  rw [e3]
  obtain ⟨M2, hM2⟩ : ∃ M2, M2 = aset M1 36 3 (.int (nI (rch ||| c))) := ⟨_, rfl⟩
  have m36 : M2.1 36 3 = nI (rch ||| c) := by
    rw [hM2, set_1, if_pos rfl, if_pos rfl]
  have mfr : ∀ a k, (a = 36 → k ≠ 3) → M2.1 a k = M.1 a k := fun a k h => by
    rw [hM2, set_1]
    by_cases e : a = 36
    · rw [if_pos e, if_neg (h e), q2]
    · rw [if_neg e, q2]
  have mJ : M2.2.1 = M1.2.1 := by rw [hM2]; rfl
  have mR : M2.2.2 = M.2.2 := by rw [hM2]; exact e1
  rw [← hM2, m36]
  clear hM2
  generalize hRe : rch ||| c = R at *
  have rch_R : sbs rch R := fun w hw => by rw [← hRe, Nat.testBit_or, hw, Bool.true_or]
  have c_R : sbs c R := fun w hw => by rw [← hRe, Nat.testBit_or, hw, Bool.or_true]
  have outer : ∀ (n t : Nat) (M3 : aM), t ≤ n → t &&& R = t → M3.2.2 = M.2.2 → M3.1 = M2.1 → (∀ k, M3.2.1 38 k = M1.2.1 38 k) → (∀ s, s < 2 ^ H.wo → (t < s → sbs s R → adQ H c m g (rkF M) s (rkF M3 s)) ∧ (¬ (t < s ∧ sbs s R) → rkF M3 s = rkF M s)) → AW l (pI pg 105) (fcV M (QAd H c m rch g M)) 0 0 23 [(4, .int (nI t)), (3, .int (nI m)), (2, .int (nI c)), (1, .ref 30), (0, .ref 36)] [] SHF M3 := by
    intro n
    induction n with
    | zero =>
      intro t M3 ht0 hto g1 g2 g3 g4
      have et : t = 0 := by omega
      subst et
      have le : nI 0 ≤ 0 := Int32.le_refl _
      refine adp_23 (by rw [g1]; exact hR) hl0 (fun _ => ⟨rfl, g1, rfl, ?_, fun a k h => ?_, fun s hsl2 => ?_, fun s hsl2 hn => ?_⟩) (fun h => absurd le h) (fun h => absurd le h)
      · rw [g2, m36, hRe]
      · rw [g2]
        exact mfr a k h
      · by_cases e : 0 < s ∧ sbs s R
        · exact (g4 s hsl2).1 e.1 e.2
        · rw [(g4 s hsl2).2 e]
          refine ⟨Or.inl rfl, Int.le_refl _, fun a ha => ?_⟩
          obtain ⟨a1, a2, a3, a4⟩ := ha
          exfalso
          have as := sbs_and.mpr a2
          have at1 : ∀ w, a.testBit w = true → s.testBit w = true ∧ c.testBit w = true := fun w hw => by
            have := as w hw
            rw [Nat.testBit_and, Bool.and_eq_true] at this
            exact this
          by_cases s0 : s = 0
          · rw [s0, Nat.zero_and, Nat.and_zero] at a2
            omega
          · refine e ⟨by omega, fun w hw => ?_⟩
            cases ea : a.testBit w with
            | true => exact c_R w (at1 w ea).2
            | false =>
              have al : a < 2 ^ H.wo := Nat.lt_of_le_of_lt (Nat.le_of_testBit (fun i hi => (at1 i hi).1)) hsl2
              have sub : sbs (s ^^^ a) rch := Classical.byContradiction fun hno => a4 (hr _ (Nat.xor_lt_two_pow hsl2 al) hno)
              exact rch_R w (sub w (by rw [Nat.testBit_xor, hw, ea]; rfl))
      · rw [hRe] at hn
        exact (g4 s hsl2).2 (fun h => hn h.2)
    | succ n ihn =>
      intro t M3 ht0 hto g1 g2 g3 g4
      by_cases t0 : t = 0
      · exact ihn t M3 (by omega) hto g1 g2 g3 g4
      have tR : t ≤ R := by rw [← hto]; exact Nat.and_le_right
      have tl : t < 2 ^ H.wo := by omega
      have nle0 : ¬ nI t ≤ 0 := by
        rw [show (0 : Int32) = nI 0 from rfl, nle (by omega) (by decide)]
        omega
      have ct : (nI t).toNatClampNeg = t := nI_clamp (by omega)
      have hR3 : ∀ e ∈ RWk, M3.2.2 e.1 e.2.1 = e.2.2 := by rw [g1]; exact hR
      refine adp_23 hR3 hl0 (fun h => absurd h nle0) (fun _ => vp_in_nI (by omega) (by decide)) (fun _ => ?_)
      rw [nI_andN (by omega) (by omega), ct]
      have own_le : t &&& c ≤ t := Nat.and_le_left
      have f37 : ∀ s, s < 2 ^ H.wo → s ≤ t → rkF M3 s = rkF M s := fun s h1 h2 => (g4 s h1).2 (fun h => by omega)
      -- the set is through
      have fin : ∀ x : Int64, adQ H c m g (rkF M) t x.toInt → AW l (pI pg 105) (fcV M (QAd H c m rch g M)) 0 0 23 [(4, .int ((nI t - Int32.ofInt 1) &&& ((aset M3 37 t (.long x)).1 36 3))), (3, .int (nI m)), (2, .int (nI c)), (1, .ref 30), (0, .ref 36)] [] SHF (aset M3 37 t (.long x)) := by
        intro x hx
        rw [show (aset M3 37 t (.long x)).1 36 3 = nI R from (show M3.1 36 3 = nI R by rw [g2, m36]), show nI t - Int32.ofInt 1 = nI (t - 1) from nI_subN (b := 1) (by omega) (by omega), nI_andN (by omega) (by omega)]
        have t1 : (t - 1) &&& R ≤ t - 1 := Nat.and_le_left
        have rk : ∀ s, rkF (aset M3 37 t (.long x)) s = if s = t then x.toInt else rkF M3 s := fun s => by
          unfold rkF
          rw [set_J, if_pos rfl]
          split <;> rfl
        refine ihn _ _ (by omega) (by rw [Nat.and_assoc, Nat.and_self]) g1 g2 (fun k => ?_) (fun s hs2 => ⟨fun h1 h2 => ?_, fun h => ?_⟩)
        · rw [set_J, if_neg (by decide)]
          exact g3 k
        · rw [rk]
          by_cases e : s = t
          · rw [if_pos e, e]
            exact hx
          · rw [if_neg e]
            refine (g4 s hs2).1 (Nat.lt_of_not_le fun hle => ?_) h2
            have := sub_next t R s hto (sbs_and.mp h2) (by omega)
            omega
        · rw [rk]
          by_cases e : s = t
          · rw [e] at h
            exact absurd ⟨by omega, sbs_and.mpr hto⟩ h
          · rw [if_neg e]
            exact (g4 s hs2).2 (fun h2 => h ⟨by omega, h2.2⟩)
      generalize ho : t &&& c = own at *
      have ost : ∀ w, own.testBit w = true → t.testBit w = true ∧ c.testBit w = true := fun w hw => by
        rw [← ho, Nat.testBit_and, Bool.and_eq_true] at hw
        exact hw
      have inner : ∀ (n2 v : Nat) (x : Int64), v ≤ n2 → v &&& own = v → (x.toInt = rkF M t ∨ ∃ a, v < a ∧ admA H c m (rkF M) t a ∧ x.toInt = rkF M (t ^^^ a) + gvS g H.wo a) → rkF M t ≤ x.toInt → (∀ a, v < a → admA H c m (rkF M) t a → rkF M (t ^^^ a) + gvS g H.wo a ≤ x.toInt) → AW l (pI pg 105) (fcV M (QAd H c m rch g M)) 0 0 47 [(8, .int (nI v)), (6, .long x), (5, .int (nI own)), (4, .int (nI t)), (3, .int (nI m)), (2, .int (nI c)), (1, .ref 30), (0, .ref 36)] [] SHF M3 := by
        intro n2
        induction n2 with
        | zero =>
          intro v x hv hvo i1 i2 i3
          have ev : v = 0 := by omega
          subst ev
          have le : nI 0 ≤ 0 := Int32.le_refl _
          refine adp_47 hR3 hl0 (fun _ => vp_in_nI (by omega) (by decide)) (fun _ => ?_) (fun h => absurd le h) (fun h => absurd le h) (fun h => absurd le h) (fun h => absurd le h) (fun h => absurd le h) (fun h => absurd le h)
          rw [ct]
          exact fin x ⟨i1.imp id (fun ⟨a, a1, a2, a3⟩ => ⟨a, a2, a3⟩), i2, fun a ha => i3 a ha.1 ha⟩
        | succ n2 ih2 =>
          intro v x hv hvo i1 i2 i3
          by_cases v0 : v = 0
          · exact ih2 v x (by omega) hvo i1 i2 i3
          have vo : v ≤ own := by rw [← hvo]; exact Nat.and_le_right
          have nle1 : ¬ nI v ≤ 0 := by
            rw [show (0 : Int32) = nI 0 from rfl, nle (by omega) (by decide)]
            omega
          have nv : (nI v - Int32.ofInt 1) &&& nI own = nI ((v - 1) &&& own) := by
            rw [show nI v - Int32.ofInt 1 = nI (v - 1) from nI_subN (b := 1) (by omega) (by omega), nI_andN (by omega) (by omega)]
          have vs := sbs_and.mpr hvo
          have vt : sbs v t := fun w hw => (ost w (vs w hw)).1
          have vc : sbs v c := fun w hw => (ost w (vs w hw)).2
          have vcl : v ≤ c := Nat.le_of_testBit vc
          have cv : (nI v).toNatClampNeg = v := nI_clamp (by omega)
          have v1 : (v - 1) &&& own < v := Nat.lt_of_le_of_lt Nat.and_le_left (by omega)
          have vn : ((v - 1) &&& own) &&& own = (v - 1) &&& own := by rw [Nat.and_assoc, Nat.and_self]
          have xl := xor_lt vt (by omega)
          have cx : (nI t ^^^ nI v).toNatClampNeg = t ^^^ v := by rw [nI_xorN (by omega) (by omega), nI_clamp (by omega)]
          have r37 : (M3.2.1 37 (t ^^^ v)).toInt = rkF M (t ^^^ v) := f37 _ (by omega) (by omega)
          have ow := q1 v vcl vc
          unfold owO at ow
          rw [← g3 v] at ow
          have gb := gv_in (t := v) w8 hg0
          have fb := hB (t ^^^ v) (by omega)
          have step : ∀ a, (v - 1) &&& own < a → a &&& own = a → v < a ∨ a = v := fun a h1 h2 => by
            by_cases e : a < v
            · have := sub_next v own a hvo h2 e
              omega
            · omega
          have skip : ¬ admA H c m (rkF M) t v → AW l (pI pg 105) (fcV M (QAd H c m rch g M)) 0 0 47 [(8, .int (nI ((v - 1) &&& own))), (6, .long x), (5, .int (nI own)), (4, .int (nI t)), (3, .int (nI m)), (2, .int (nI c)), (1, .ref 30), (0, .ref 36)] [] SHF M3 := fun hno => ih2 _ x (by omega) vn (i1.imp id (fun ⟨a, a1, a2⟩ => ⟨a, by omega, a2⟩)) i2 (fun a ha had => by
            rcases step a ha (by rw [← ho]; exact had.2.1) with h | h
            · exact i3 a h had
            · rw [h] at had
              exact absurd had hno)
          refine adp_47 hR3 hl0 (fun h => absurd h nle1) (fun h => absurd h nle1) (fun _ => by rw [nI_xorN (by omega) (by omega)]; exact vp_in_nI (by omega) (by decide)) (fun _ => vp_in_nI (by omega) (by decide)) (fun _ h6 => ?_) (fun _ h6 h8 => ?_) (fun _ h6 h8 h10 => ?_) (fun _ h6 h8 h10 => ?_)
          · rw [nv]
            rw [cv, j_m1] at h6
            refine skip (fun had => ?_)
            rcases ow with ⟨-, u⟩ | ⟨u, -⟩
            · omega
            · exact u had.2.2.1
          · rw [nv]
            rw [cx, j_m1, r37] at h8
            exact skip (fun had => had.2.2.2 h8)
          · rw [nv]
            rw [cv, j_m1] at h6
            rw [cx, j_m1, r37] at h8
            obtain ⟨u1, u2⟩ := ow.resolve_right (fun q => h6 q.2)
            rw [cx, cv, j_le, j_add (by omega) (by omega), r37, u2] at h10
            refine ih2 _ x (by omega) vn (i1.imp id (fun ⟨a, a1, a2⟩ => ⟨a, by omega, a2⟩)) i2 (fun a ha had => ?_)
            rcases step a ha (by rw [← ho]; exact had.2.1) with h | h
            · exact i3 a h had
            · rw [h]
              exact h10
          · rw [nv]
            rw [cv, j_m1] at h6
            rw [cx, j_m1, r37] at h8
            obtain ⟨u1, u2⟩ := ow.resolve_right (fun q => h6 q.2)
            rw [cx, cv, j_le, j_add (by omega) (by omega), r37, u2] at h10
            rw [cx, cv]
            have ex : (M3.2.1 37 (t ^^^ v) + M3.2.1 38 v).toInt = rkF M (t ^^^ v) + gvS g H.wo v := by rw [j_add (by omega) (by omega), r37, u2]
            refine ih2 _ _ (by omega) vn (Or.inr ⟨v, v1, ⟨by omega, by rw [ho]; exact hvo, u1, h8⟩, ex⟩) (by rw [ex]; omega) (fun a ha had => ?_)
            rw [ex]
            rcases step a ha (by rw [← ho]; exact had.2.1) with h | h
            · have := i3 a h had
              omega
            · rw [h]
              exact Int.le_refl _
      refine inner own own _ (Nat.le_refl _) (Nat.and_self _) (Or.inl (f37 t tl (Nat.le_refl _))) ?_ (fun a ha had => ?_)
      · show rkF M t ≤ rkF M3 t
        rw [f37 t tl (Nat.le_refl _)]
        exact Int.le_refl _
      · have : a ≤ own := by
          have := had.2.1
          rw [ho] at this
          rw [← this]
          exact Nat.and_le_right
        omega
  refine outer R R M2 (Nat.le_refl _) (Nat.and_self _) mR rfl (fun k => by rw [mJ]) (fun s hs2 => ⟨fun h1 h2 => ?_, fun _ => ?_⟩)
  · have := Nat.le_of_testBit h2
    omega
  · unfold rkF
    rw [mJ, q3 37 s (by decide)]
theorem fiJ37_c (hl0 : l.1.stackTraces = false) {f : Int64} : AC l (pI pg 17) (fcV M (fun M' => (∀ k, k < 256 → M'.2.1 37 k = f) ∧ M'.1 = M.1)) 0 0 [.ref 37, .long f] SHF M := by
  refine fw_of hl0 ⟨by decide +kernel, by decide +kernel, by decide +kernel⟩ rfl ?_
  refine fiJ37_0 hl0 ?_
  have loop : ∀ (d i : Nat) (M1 : aM), i + d = 256 → M1.2.2 = M.2.2 → (∀ k, k < i → M1.2.1 37 k = f) → M1.1 = M.1 → AW l (pI pg 17) (fcV M (fun M' => (∀ k, k < 256 → M'.2.1 37 k = f) ∧ M'.1 = M.1)) 0 0 6 [(0, .ref 37), (1, .long f), (3, .int (nI i)), (4, .int (Int32.ofNat 256))] [] SHF M1 := by
    intro d
    induction d with
    | zero =>
      intro i M1 hi h1 h2 h3
      have ei : i = 256 := by omega
      subst ei
      have le : Int32.ofNat 256 ≤ nI 256 := Int32.le_refl _
      exact fiJ37_6 hl0 (fun _ => ⟨rfl, h1, rfl, h2, h3⟩) (fun h => absurd le h) (fun h => absurd le h)
    | succ d ih =>
      intro i M1 hi h1 h2 h3
      refine fiJ37_6 hl0 (fun h => ge_no (a := i) (b := 256) (by omega) (by decide) h) (fun _ => vp_in_nI (by omega) (by decide)) (fun _ => ?_)
      rw [nI_clamp (by omega), show nI i + Int32.ofInt 1 = nI (i + 1) from nI_1 i]
      refine ih (i + 1) _ (by omega) h1 (fun k hk => ?_) h3
      rw [set_J, if_pos rfl]
      by_cases e : k = i
      · rw [if_pos e]
      · rw [if_neg e]
        exact h2 k (by omega)
  exact loop 256 0 M rfl rfl (fun k hk => absurd hk (Nat.not_lt_zero _)) rfl
end DY1
section DYa
variable {l : aL} {M : aM} {H : HS} {x : Int32}
theorem roda_c (hl0 : l.1.stackTraces = false) (hR : ∀ e ∈ RR.2, M.2.2 e.1 e.2.1 = e.2.2) (hI : HI H) (hH : cHo 4 H M) (hs : spH H M) {lf : Nat} (hlf : lf < 64) : AC l (pI pg 101) (fcJ M (fun y M' => (∀ a k, (a = 36 → k ≠ 3) → M'.1 a k = M.1 a k) ∧ ∃ f, Best (Rch (mkC H H.cd (rkG H) lf) fx0 H.pe) H.wo f ∧ y.toInt = f (2 ^ H.wo - 1))) 0 0 [.ref 36, .ref 4, .ref 30, .int (nI lf)] SHF M := by
  have w8 := hI.2.1
  have p6 := hI.1
  have P8 := p2_8 w8
  have wpos := Nat.two_pow_pos H.wo
  have hRW : ∀ e ∈ RWk, M.2.2 e.1 e.2.1 = e.2.2 := fun e he => hR e (rw_RR e he)
  have hsl : ∀ t, sumL H H.wo t ≤ 64 := fun t => Nat.le_trans (sumL_le hI H.wo (Nat.le_refl _)) (by omega)
  have skl : ∀ p w, p < 6 → w < 8 → H.sk (8 * p + w) < 10 := fun p w hp hw => by
    have := (hI.2.2.2.2.2.2.2.1 p w hp hw).1
    omega
  have gb : ∀ p w, p < 6 → w < 8 → 0 ≤ rkG H p w ∧ rkG H p w ≤ 268435456 := fun p w hp hw => by
    have h1 := skl p w hp hw
    have h2 : 8 ^ (7 - w) ≤ 8 ^ 7 := Nat.pow_le_pow_right (by decide) (by omega)
    have h3 : (7 - p) * 8 ^ (7 - w) ≤ 7 * 8 ^ 7 := Nat.mul_le_mul (by omega) h2
    have e : rkG H p w = 16777216 * (H.sk (8 * p + w) : Int) + (((7 - p) * 8 ^ (7 - w) : Nat) : Int) := by
      unfold rkG skG cdG
      rw [Int.natCast_mul]
    rw [e]
    generalize (7 - p) * 8 ^ (7 - w) = q at *
    omega
  refine fw_of hl0 ⟨by decide +kernel, by decide +kernel, by decide +kernel⟩ rfl ?_
  have clear : AC l (pI pg 102) (fcV M (fun M' => (∀ t, t < 256 → rkF M' t = if t = 0 then 0 else -1) ∧ M'.1 36 3 = nI 0 ∧ ∀ a k, (a = 36 → k ≠ 3) → M'.1 a k = M.1 a k)) 0 0 [.ref 36] SHF M := by
    refine fw_of hl0 ⟨by decide +kernel, by decide +kernel, by decide +kernel⟩ rfl ?_
    refine clr_0 hRW hl0 _ (fiJ37_c hl0) (fun M1 e1 q1 => vp_in_nI (n := 0) (by decide) (by decide)) (fun M1 e1 q1 => ?_)
    refine ⟨rfl, e1, rfl, fun t ht => ?_, rfl, fun a k h => ?_⟩
    · show ((aset M1 37 (Int32.ofInt 0).toNatClampNeg (.long (Int64.ofNat (0 : Fin 2)))).2.1 37 t).toInt = _
      rw [show (Int32.ofInt 0).toNatClampNeg = 0 by decide, set_J, if_pos rfl]
      by_cases e : t = 0
      · rw [if_pos e, if_pos e]
        decide
      · rw [if_neg e, if_neg e, q1.1 t ht]
        decide
    · rw [set_1]
      by_cases e : a = 36
      · rw [if_pos e, if_neg (h e)]
        exact congrFun (congrFun q1.2 a) k
      · rw [if_neg e]
        exact congrFun (congrFun q1.2 a) k
  have loop : ∀ (d p rch : Nat) (M1 : aM), p + d = H.pe → M1.2.2 = M.2.2 → (∀ a k, (a = 36 → k ≠ 3) → M1.1 a k = M.1 a k) → M1.1 36 3 = nI rch → rch < 2 ^ H.wo → (∀ t, t < 2 ^ H.wo → ¬ sbs t rch → rkF M1 t = -1) → Best (Rch (mkC H H.cd (rkG H) lf) fx0 p) H.wo (rkF M1) → AW l (pI pg 101) (fcJ M (fun y M' => (∀ a k, (a = 36 → k ≠ 3) → M'.1 a k = M.1 a k) ∧ ∃ f, Best (Rch (mkC H H.cd (rkG H) lf) fx0 H.pe) H.wo f ∧ y.toInt = f (2 ^ H.wo - 1))) 0 0 7 [(4, .int (nI p)), (3, .int (nI lf)), (2, .ref 30), (1, .ref 4), (0, .ref 36)] [] SHF M1 := by
    intro d
    induction d with
    | zero =>
      intro p rch M1 hp h1 h2 h3 h4 h5 h6
      have ep : p = H.pe := by omega
      subst ep
      have c1 : cHo 4 H M1 := cH_eq hH (fun a k g1 g2 => h2 a k (by omega))
      have le : M1.1 4 0 ≤ nI H.pe := by rw [c1.pe]; exact Int32.le_refl _
      refine roda_7 (by rw [h1]; exact hR) hl0 (fun y M' => M' = M1 ∧ y = nI (2 ^ H.wo - 1)) (fun _ => alwa_c hl0 w8 c1.wo) (fun _ y2 M2 e2 q2 => ?_) (fun _ y2 M2 e2 q2 => ?_) (fun h => absurd le h) (fun h => absurd le h)
      · rw [q2.2]
        exact vp_in_nI (by omega) (by decide)
      · obtain ⟨rfl, rfl⟩ := q2
        rw [nI_clamp (by omega)]
        exact ⟨rfl, h1, _, rfl, h2, rkF M2, h6, rfl⟩
    | succ d ih =>
      intro p rch M1 hp h1 h2 h3 h4 h5 h6
      have c1 : cHo 4 H M1 := cH_eq hH (fun a k g1 g2 => h2 a k (by omega))
      have ng : ¬ M1.1 4 0 ≤ nI p := by
        rw [c1.pe, nle (by omega) (by omega)]
        omega
      have nx : nI p + Int32.ofInt 1 = nI (p + 1) := nI_1 p
      refine roda_7 (by rw [h1]; exact hR) hl0 (fun _ _ => True) (fun h => absurd h ng) (fun h => absurd h ng) (fun h => absurd h ng) (fun _ hb => ?_) (fun _ hb => ?_)
      · rw [nx]
        rw [bitF (by omega) (by omega)] at hb
        exact ih (p + 1) rch M1 (by omega) h1 h2 h3 h4 h5 (Best_non hb h6)
      · have hb : lf.testBit p = true := by
          cases e : lf.testBit p with
          | true => rfl
          | false => exact absurd ((bitF (by omega) (by omega)).mpr e) hb
        have gains : ∀ (d2 w : Nat) (M2 : aM), w + d2 = H.wo → M2.2.2 = M.2.2 → M2.1 = M1.1 → (∀ t, M2.2.1 37 t = M1.2.1 37 t) → (∀ z, z < w → (M2.2.1 39 z).toInt = rkG H p z) → AW l (pI pg 101) (fcJ M (fun y M' => (∀ a k, (a = 36 → k ≠ 3) → M'.1 a k = M.1 a k) ∧ ∃ f, Best (Rch (mkC H H.cd (rkG H) lf) fx0 H.pe) H.wo f ∧ y.toInt = f (2 ^ H.wo - 1))) 0 0 28 [(5, .int (nI w)), (4, .int (nI p)), (3, .int (nI lf)), (2, .ref 30), (1, .ref 4), (0, .ref 36)] [] SHF M2 := by
          intro d2
          induction d2 with
          | zero =>
            intro w M2 hw g1 g2 g3 g4
            have ew : w = H.wo := by omega
            subst ew
            have le : M2.1 4 1 ≤ nI H.wo := by rw [g2, c1.wo]; exact Int32.le_refl _
            have cp : (nI p).toNatClampNeg = p := nI_clamp (by omega)
            have ccd : M2.1 7 (nI p).toNatClampNeg = nI (H.cd p) := by rw [cp, g2]; exact c1.cd p (by omega)
            have cho : M2.1 5 (nI p).toNatClampNeg = nI (H.ho p) := by rw [cp, g2]; exact c1.ho p (by omega)
            have cdl : H.cd p < 2 ^ H.wo := by
              rw [← cd_wo hI (p := p) (by omega)]
              exact Nat.mod_lt _ wpos
            have rk2 : rkF M2 = rkF M1 := funext fun t => by
              unfold rkF
              rw [g3]
            have h24 := hI.2.2.2.2.1 p (by omega)
            have bl : ∀ t, t < 2 ^ H.wo → -1 ≤ rkF M2 t ∧ rkF M2 t ≤ 2147483648 := fun t ht => by
              rw [rk2]
              have := Best_le (G := 268435456) (by decide) (fun q w hq hw => (gb q w (by omega) (by omega)).2) h6 ht
              omega
            refine roda_28 (by rw [g1]; exact hR) hl0 (fun _ => vp_in_nI (by omega) (by decide)) (QAd H (H.cd p) (H.ho p) rch (rkG H p) M2) (fun _ => ?_) (fun _ M3 e3 q3 => ?_) (fun h => absurd le h) (fun _ _ => True) (fun h => absurd le h) (fun h => absurd le h) (fun h => absurd le h)
            · rw [ccd, cho]
              exact adp_c hl0 (by rw [g1]; exact hRW) w8 (fun t ht => by rw [g2, h2 31 t (fun e => absurd e (by decide))]; exact hs t ht) hsl cdl h24 g4 (fun w hw => gb p w (by omega) (by omega)) h4 (by rw [g2]; exact h3) bl (fun t ht hn => by rw [rk2]; exact h5 t ht hn)
            · obtain ⟨q4, q5, q6, q7⟩ := q3
              rw [nx]
              rw [rk2] at q6 q7
              refine ih (p + 1) (rch ||| H.cd p) M3 (by omega) (e3.trans g1) (fun a k h => by rw [q5 a k h, g2]; exact h2 a k h) q4 (Nat.or_lt_two_pow h4 cdl) (fun t ht hn => ?_) (Best_add (fun w hw => (gb p w (by omega) (by omega)).1) hb h6 q6)
              rw [q7 t ht hn]
              exact h5 t ht (fun hs => hn (fun w hw => by rw [Nat.testBit_or, hs w hw, Bool.true_or]))
          | succ d2 ih2 =>
            intro w M2 hw g1 g2 g3 g4
            have ng2 : ¬ M2.1 4 1 ≤ nI w := by
              rw [g2, c1.wo, nle (by omega) (by omega)]
              omega
            have ix : nI p * (Int8.ofInt 8).toInt32 + nI w = nI (8 * p + w) := by rw [z_8, nI_mulN, nI_add, Nat.mul_comm]
            have sk : M2.1 12 (nI (8 * p + w)).toNatClampNeg = nI (H.sk (8 * p + w)) := by
              rw [nI_clamp (by omega), g2]
              exact c1.sk (8 * p + w) (by omega)
            refine roda_28 (by rw [g1]; exact hR) hl0 (fun h => absurd h ng2) (fun _ => True) (fun h => absurd h ng2) (fun h => absurd h ng2) (fun _ => by rw [ix]; exact vp_in_nI (by omega) (by decide)) (fun y M' => M' = M2 ∧ y.toInt = 16777216 * (H.sk (8 * p + w) : Int) + cdG p w) (fun _ => ?_) (fun _ y7 M7 e7 q7 => vp_in_nI (by omega) (by decide)) (fun _ y7 M7 e7 q7 => ?_)
            · rw [ix, sk]
              exact gof_c hl0 (skl p w (by omega) (by omega)) (by omega) (by omega)
            · obtain ⟨rfl, q7⟩ := q7
              rw [show nI w + Int32.ofInt 1 = nI (w + 1) from nI_1 w, nI_clamp (by omega)]
              refine ih2 (w + 1) _ (by omega) g1 g2 (fun t => ?_) (fun z hz => ?_)
              · rw [set_J, if_neg (by decide)]
                exact g3 t
              · rw [set_J, if_pos rfl]
                by_cases e : z = w
                · rw [if_pos e, q7, e]
                  rfl
                · rw [if_neg e]
                  exact g4 z (by omega)
        exact gains H.wo 0 M1 (by omega) h1 rfl (fun _ => rfl) (fun z hz => absurd hz (Nat.not_lt_zero _))
  refine roda_0 hR hl0 _ clear (fun M1 e1 q1 => ?_)
  refine loop H.pe 0 0 M1 (by omega) e1 q1.2.2 q1.2.1 wpos (fun t ht hn => ?_) (Best.zero (D := mkC H H.cd (rkG H) lf) (fun t ht => q1.1 t (Nat.lt_of_lt_of_le ht P8)))
  rw [q1.1 t (by omega)]
  by_cases e : t = 0
  · subst e
    exact absurd (fun w hw => hw) hn
  · rw [if_neg e]
end DYa
section DYb
variable {l : aL} {M : aM} {H : HS} {x : Int32}
theorem rodb_c (hl0 : l.1.stackTraces = false) (hR : ∀ e ∈ RRS.2, M.2.2 e.1 e.2.1 = e.2.2) (hI : HI H) (hH : cHo 17 H M) (hs : spH H M) {lf : Nat} (hlf : lf < 64) : AC l (pI pg 101) (fcJ M (fun y M' => (∀ a k, (a = 36 → k ≠ 3) → M'.1 a k = M.1 a k) ∧ ∃ f, Best (Rch (mkC H H.cd (rkG H) lf) fx0 H.pe) H.wo f ∧ y.toInt = f (2 ^ H.wo - 1))) 0 0 [.ref 36, .ref 17, .ref 30, .int (nI lf)] SHF M := by
  have w8 := hI.2.1
  have p6 := hI.1
  have P8 := p2_8 w8
  have wpos := Nat.two_pow_pos H.wo
  have hRW : ∀ e ∈ RWk, M.2.2 e.1 e.2.1 = e.2.2 := fun e he => hR e (rw_RRS e he)
  have hsl : ∀ t, sumL H H.wo t ≤ 64 := fun t => Nat.le_trans (sumL_le hI H.wo (Nat.le_refl _)) (by omega)
  have skl : ∀ p w, p < 6 → w < 8 → H.sk (8 * p + w) < 10 := fun p w hp hw => by
    have := (hI.2.2.2.2.2.2.2.1 p w hp hw).1
    omega
  have gb : ∀ p w, p < 6 → w < 8 → 0 ≤ rkG H p w ∧ rkG H p w ≤ 268435456 := fun p w hp hw => by
    have h1 := skl p w hp hw
    have h2 : 8 ^ (7 - w) ≤ 8 ^ 7 := Nat.pow_le_pow_right (by decide) (by omega)
    have h3 : (7 - p) * 8 ^ (7 - w) ≤ 7 * 8 ^ 7 := Nat.mul_le_mul (by omega) h2
    have e : rkG H p w = 16777216 * (H.sk (8 * p + w) : Int) + (((7 - p) * 8 ^ (7 - w) : Nat) : Int) := by
      unfold rkG skG cdG
      rw [Int.natCast_mul]
    rw [e]
    generalize (7 - p) * 8 ^ (7 - w) = q at *
    omega
  refine fw_of hl0 ⟨by decide +kernel, by decide +kernel, by decide +kernel⟩ rfl ?_
  have clear : AC l (pI pg 102) (fcV M (fun M' => (∀ t, t < 256 → rkF M' t = if t = 0 then 0 else -1) ∧ M'.1 36 3 = nI 0 ∧ ∀ a k, (a = 36 → k ≠ 3) → M'.1 a k = M.1 a k)) 0 0 [.ref 36] SHF M := by
    refine fw_of hl0 ⟨by decide +kernel, by decide +kernel, by decide +kernel⟩ rfl ?_
    refine clr_0 hRW hl0 _ (fiJ37_c hl0) (fun M1 e1 q1 => vp_in_nI (n := 0) (by decide) (by decide)) (fun M1 e1 q1 => ?_)
    refine ⟨rfl, e1, rfl, fun t ht => ?_, rfl, fun a k h => ?_⟩
    · show ((aset M1 37 (Int32.ofInt 0).toNatClampNeg (.long (Int64.ofNat (0 : Fin 2)))).2.1 37 t).toInt = _
      rw [show (Int32.ofInt 0).toNatClampNeg = 0 by decide, set_J, if_pos rfl]
      by_cases e : t = 0
      · rw [if_pos e, if_pos e]
        decide
      · rw [if_neg e, if_neg e, q1.1 t ht]
        decide
    · rw [set_1]
      by_cases e : a = 36
      · rw [if_pos e, if_neg (h e)]
        exact congrFun (congrFun q1.2 a) k
      · rw [if_neg e]
        exact congrFun (congrFun q1.2 a) k
  have loop : ∀ (d p rch : Nat) (M1 : aM), p + d = H.pe → M1.2.2 = M.2.2 → (∀ a k, (a = 36 → k ≠ 3) → M1.1 a k = M.1 a k) → M1.1 36 3 = nI rch → rch < 2 ^ H.wo → (∀ t, t < 2 ^ H.wo → ¬ sbs t rch → rkF M1 t = -1) → Best (Rch (mkC H H.cd (rkG H) lf) fx0 p) H.wo (rkF M1) → AW l (pI pg 101) (fcJ M (fun y M' => (∀ a k, (a = 36 → k ≠ 3) → M'.1 a k = M.1 a k) ∧ ∃ f, Best (Rch (mkC H H.cd (rkG H) lf) fx0 H.pe) H.wo f ∧ y.toInt = f (2 ^ H.wo - 1))) 0 0 7 [(4, .int (nI p)), (3, .int (nI lf)), (2, .ref 30), (1, .ref 17), (0, .ref 36)] [] SHF M1 := by
    intro d
    induction d with
    | zero =>
      intro p rch M1 hp h1 h2 h3 h4 h5 h6
      have ep : p = H.pe := by omega
      subst ep
      have c1 : cHo 17 H M1 := cH_eq hH (fun a k g1 g2 => h2 a k (by omega))
      have le : M1.1 17 0 ≤ nI H.pe := by rw [c1.pe]; exact Int32.le_refl _
      refine rodb_7 (by rw [h1]; exact hR) hl0 (fun y M' => M' = M1 ∧ y = nI (2 ^ H.wo - 1)) (fun _ => alwb_c hl0 w8 c1.wo) (fun _ y2 M2 e2 q2 => ?_) (fun _ y2 M2 e2 q2 => ?_) (fun h => absurd le h) (fun h => absurd le h)
      · rw [q2.2]
        exact vp_in_nI (by omega) (by decide)
      · obtain ⟨rfl, rfl⟩ := q2
        rw [nI_clamp (by omega)]
        exact ⟨rfl, h1, _, rfl, h2, rkF M2, h6, rfl⟩
    | succ d ih =>
      intro p rch M1 hp h1 h2 h3 h4 h5 h6
      have c1 : cHo 17 H M1 := cH_eq hH (fun a k g1 g2 => h2 a k (by omega))
      have ng : ¬ M1.1 17 0 ≤ nI p := by
        rw [c1.pe, nle (by omega) (by omega)]
        omega
      have nx : nI p + Int32.ofInt 1 = nI (p + 1) := nI_1 p
      refine rodb_7 (by rw [h1]; exact hR) hl0 (fun _ _ => True) (fun h => absurd h ng) (fun h => absurd h ng) (fun h => absurd h ng) (fun _ hb => ?_) (fun _ hb => ?_)
      · rw [nx]
        rw [bitF (by omega) (by omega)] at hb
        exact ih (p + 1) rch M1 (by omega) h1 h2 h3 h4 h5 (Best_non hb h6)
      · have hb : lf.testBit p = true := by
          cases e : lf.testBit p with
          | true => rfl
          | false => exact absurd ((bitF (by omega) (by omega)).mpr e) hb
        have gains : ∀ (d2 w : Nat) (M2 : aM), w + d2 = H.wo → M2.2.2 = M.2.2 → M2.1 = M1.1 → (∀ t, M2.2.1 37 t = M1.2.1 37 t) → (∀ z, z < w → (M2.2.1 39 z).toInt = rkG H p z) → AW l (pI pg 101) (fcJ M (fun y M' => (∀ a k, (a = 36 → k ≠ 3) → M'.1 a k = M.1 a k) ∧ ∃ f, Best (Rch (mkC H H.cd (rkG H) lf) fx0 H.pe) H.wo f ∧ y.toInt = f (2 ^ H.wo - 1))) 0 0 28 [(5, .int (nI w)), (4, .int (nI p)), (3, .int (nI lf)), (2, .ref 30), (1, .ref 17), (0, .ref 36)] [] SHF M2 := by
          intro d2
          induction d2 with
          | zero =>
            intro w M2 hw g1 g2 g3 g4
            have ew : w = H.wo := by omega
            subst ew
            have le : M2.1 17 1 ≤ nI H.wo := by rw [g2, c1.wo]; exact Int32.le_refl _
            have cp : (nI p).toNatClampNeg = p := nI_clamp (by omega)
            have ccd : M2.1 20 (nI p).toNatClampNeg = nI (H.cd p) := by rw [cp, g2]; exact c1.cd p (by omega)
            have cho : M2.1 18 (nI p).toNatClampNeg = nI (H.ho p) := by rw [cp, g2]; exact c1.ho p (by omega)
            have cdl : H.cd p < 2 ^ H.wo := by
              rw [← cd_wo hI (p := p) (by omega)]
              exact Nat.mod_lt _ wpos
            have rk2 : rkF M2 = rkF M1 := funext fun t => by
              unfold rkF
              rw [g3]
            have h24 := hI.2.2.2.2.1 p (by omega)
            have bl : ∀ t, t < 2 ^ H.wo → -1 ≤ rkF M2 t ∧ rkF M2 t ≤ 2147483648 := fun t ht => by
              rw [rk2]
              have := Best_le (G := 268435456) (by decide) (fun q w hq hw => (gb q w (by omega) (by omega)).2) h6 ht
              omega
            refine rodb_28 (by rw [g1]; exact hR) hl0 (fun _ => vp_in_nI (by omega) (by decide)) (QAd H (H.cd p) (H.ho p) rch (rkG H p) M2) (fun _ => ?_) (fun _ M3 e3 q3 => ?_) (fun h => absurd le h) (fun _ _ => True) (fun h => absurd le h) (fun h => absurd le h) (fun h => absurd le h)
            · rw [ccd, cho]
              exact adp_c hl0 (by rw [g1]; exact hRW) w8 (fun t ht => by rw [g2, h2 31 t (fun e => absurd e (by decide))]; exact hs t ht) hsl cdl h24 g4 (fun w hw => gb p w (by omega) (by omega)) h4 (by rw [g2]; exact h3) bl (fun t ht hn => by rw [rk2]; exact h5 t ht hn)
            · obtain ⟨q4, q5, q6, q7⟩ := q3
              rw [nx]
              rw [rk2] at q6 q7
              refine ih (p + 1) (rch ||| H.cd p) M3 (by omega) (e3.trans g1) (fun a k h => by rw [q5 a k h, g2]; exact h2 a k h) q4 (Nat.or_lt_two_pow h4 cdl) (fun t ht hn => ?_) (Best_add (fun w hw => (gb p w (by omega) (by omega)).1) hb h6 q6)
              rw [q7 t ht hn]
              exact h5 t ht (fun hs => hn (fun w hw => by rw [Nat.testBit_or, hs w hw, Bool.true_or]))
          | succ d2 ih2 =>
            intro w M2 hw g1 g2 g3 g4
            have ng2 : ¬ M2.1 17 1 ≤ nI w := by
              rw [g2, c1.wo, nle (by omega) (by omega)]
              omega
            have ix : nI p * (Int8.ofInt 8).toInt32 + nI w = nI (8 * p + w) := by rw [z_8, nI_mulN, nI_add, Nat.mul_comm]
            have sk : M2.1 25 (nI (8 * p + w)).toNatClampNeg = nI (H.sk (8 * p + w)) := by
              rw [nI_clamp (by omega), g2]
              exact c1.sk (8 * p + w) (by omega)
            refine rodb_28 (by rw [g1]; exact hR) hl0 (fun h => absurd h ng2) (fun _ => True) (fun h => absurd h ng2) (fun h => absurd h ng2) (fun _ => by rw [ix]; exact vp_in_nI (by omega) (by decide)) (fun y M' => M' = M2 ∧ y.toInt = 16777216 * (H.sk (8 * p + w) : Int) + cdG p w) (fun _ => ?_) (fun _ y7 M7 e7 q7 => vp_in_nI (by omega) (by decide)) (fun _ y7 M7 e7 q7 => ?_)
            · rw [ix, sk]
              exact gof_c hl0 (skl p w (by omega) (by omega)) (by omega) (by omega)
            · obtain ⟨rfl, q7⟩ := q7
              rw [show nI w + Int32.ofInt 1 = nI (w + 1) from nI_1 w, nI_clamp (by omega)]
              refine ih2 (w + 1) _ (by omega) g1 g2 (fun t => ?_) (fun z hz => ?_)
              · rw [set_J, if_neg (by decide)]
                exact g3 t
              · rw [set_J, if_pos rfl]
                by_cases e : z = w
                · rw [if_pos e, q7, e]
                  rfl
                · rw [if_neg e]
                  exact g4 z (by omega)
        exact gains H.wo 0 M1 (by omega) h1 rfl (fun _ => rfl) (fun z hz => absurd hz (Nat.not_lt_zero _))
  refine rodb_0 hR hl0 _ clear (fun M1 e1 q1 => ?_)
  refine loop H.pe 0 0 M1 (by omega) e1 q1.2.2 q1.2.1 wpos (fun t ht hn => ?_) (Best.zero (D := mkC H H.cd (rkG H) lf) (fun t ht => q1.1 t (Nat.lt_of_lt_of_le ht P8)))
  rw [q1.1 t (by omega)]
  by_cases e : t = 0
  · subst e
    exact absurd (fun w hw => hw) hn
  · rw [if_neg e]
end DYb
