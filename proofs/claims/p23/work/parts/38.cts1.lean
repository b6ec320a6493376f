section CT
variable {l : aL}
/-- Integer.bitCount -/
def ens_1 : cE := (21, [some (.inr (0, 255))], [], ([], []), [(some (some (.inr (0, 8))), [])], [], 0, 0)
def cts_1 : List cE := ens_1 :: ctA
set_option maxRecDepth 100000 in
theorem cks_1 : mC pg RRS SHF mtL ctA ens_1 [] [] 48 = true := by decide +kernel
theorem oks_1 (hl0 : l.1.stackTraces = false) (hA : ∀ e ∈ ctA, cOk l pg RRS SHF e) : ∀ e ∈ cts_1, cOk l pg RRS SHF e := List.forall_mem_cons.mpr ⟨meth_ok pg_ok mtL_ok hl0 hA ⟨by decide +kernel, by decide +kernel, by decide +kernel⟩ (by decide +kernel) cks_1, hA⟩
/-- Integer.numberOfTrailingZeros -/
def ens_2 : cE := (107, [some (.inr (1, 255))], [], ([], []), [(some (some (.inr (0, 7))), [])], [], 0, 0)
def cts_2 : List cE := ens_2 :: cts_1
set_option maxRecDepth 100000 in
theorem cks_2 : mC pg RRS SHF mtL cts_1 ens_2 [] [] 46 = true := by decide +kernel
theorem oks_2 (hl0 : l.1.stackTraces = false) (hA : ∀ e ∈ ctA, cOk l pg RRS SHF e) : ∀ e ∈ cts_2, cOk l pg RRS SHF e := List.forall_mem_cons.mpr ⟨meth_ok pg_ok mtL_ok hl0 (oks_1 hl0 hA) ⟨by decide +kernel, by decide +kernel, by decide +kernel⟩ (by decide +kernel) cks_2, (oks_1 hl0 hA)⟩
/-- Tokens.put -/
def ens_3 : cE := (25, [some (.inl (.ref 2)), some (.inr ((-2147483648), 2147483647))], [], ([3], [(2, 1)]), [(none, [])], [], 0, 0)
def cts_3 : List cE := ens_3 :: cts_2
set_option maxRecDepth 100000 in
theorem cks_3 : mC pg RRS SHF mtL cts_2 ens_3 [(3, [(0, some (.inl (.ref 2))), (1, some (.inr ((-2147483648), 2147483647))), (2, some (.inr ((-256), 24)))], [], 256, [1], [])] [(0, 2, 0)] 28 = true := by decide +kernel
theorem oks_3 (hl0 : l.1.stackTraces = false) (hA : ∀ e ∈ ctA, cOk l pg RRS SHF e) : ∀ e ∈ cts_3, cOk l pg RRS SHF e := List.forall_mem_cons.mpr ⟨meth_ok pg_ok mtL_ok hl0 (oks_2 hl0 hA) ⟨by decide +kernel, by decide +kernel, by decide +kernel⟩ (by decide +kernel) cks_3, (oks_2 hl0 hA)⟩
/-- FullHouse.feed -/
def ens_4 : cE := (24, [some (.inl (.ref 0)), some (.inr ((-2147483648), 2147483647)), some (.inr ((-2147483648), 2147483647)), some (.inr ((-2147483648), 2147483647)), some (.inr ((-2147483648), 2147483647)), some (.inr ((-2147483648), 2147483647))], [], ([3], [(2, 1)]), [(some (some (.inr ((-1), 800))), [])], [], 2, 12)
def cts_4 : List cE := ens_4 :: cts_3
set_option maxRecDepth 100000 in
theorem cks_4 : mC pg RRS SHF mtL cts_3 ens_4 [] [] 31 = true := by decide +kernel
theorem oks_4 (hl0 : l.1.stackTraces = false) (hA : ∀ e ∈ ctA, cOk l pg RRS SHF e) : ∀ e ∈ cts_4, cOk l pg RRS SHF e := List.forall_mem_cons.mpr ⟨meth_ok pg_ok mtL_ok hl0 (oks_3 hl0 hA) ⟨by decide +kernel, by decide +kernel, by decide +kernel⟩ (by decide +kernel) cks_4, (oks_3 hl0 hA)⟩
/-- FullHouse.fault -/
def ens_5 : cE := (26, [some (.inl (.ref 0))], [], ([], []), [(some (some (.inr ((-1), 800))), [])], [], 2, 12)
def cts_5 : List cE := ens_5 :: cts_4
set_option maxRecDepth 100000 in
theorem cks_5 : mC pg RRS SHF mtL cts_4 ens_5 [] [] 8 = true := by decide +kernel
theorem oks_5 (hl0 : l.1.stackTraces = false) (hA : ∀ e ∈ ctA, cOk l pg RRS SHF e) : ∀ e ∈ cts_5, cOk l pg RRS SHF e := List.forall_mem_cons.mpr ⟨meth_ok pg_ok mtL_ok hl0 (oks_4 hl0 hA) ⟨by decide +kernel, by decide +kernel, by decide +kernel⟩ (by decide +kernel) cks_5, (oks_4 hl0 hA)⟩
/-- FullHouse.count -/
def ens_6 : cE := (86, [some (.inl (.ref 0)), some (.inr ((-2147483648), 2147483647))], [], ([], []), [(some (some (.inr ((-2147483648), 2147483647))), [])], ["java/util/NoSuchElementException"], 2, 12)
def cts_6 : List cE := ens_6 :: cts_5
set_option maxRecDepth 100000 in
theorem cks_6 : mC pg RRS SHF mtL cts_5 ens_6 [] [] 12 = true := by decide +kernel
theorem oks_6 (hl0 : l.1.stackTraces = false) (hA : ∀ e ∈ ctA, cOk l pg RRS SHF e) : ∀ e ∈ cts_6, cOk l pg RRS SHF e := List.forall_mem_cons.mpr ⟨meth_ok pg_ok mtL_ok hl0 (oks_5 hl0 hA) ⟨by decide +kernel, by decide +kernel, by decide +kernel⟩ (by decide +kernel) cks_6, (oks_5 hl0 hA)⟩
/-- FullHouse.person -/
def ens_7 : cE := (89, [some (.inl (.ref 0)), some (.inr ((-2147483648), 2147483647)), some (.inr ((-2147483648), 2147483647))], [], ([], []), [(some (some (.inr (0, 1000))), [])], ["java/util/NoSuchElementException"], 2, 12)
def cts_7 : List cE := ens_7 :: cts_6
set_option maxRecDepth 100000 in
theorem cks_7 : mC pg RRS SHF mtL cts_6 ens_7 [] [] 21 = true := by decide +kernel
theorem oks_7 (hl0 : l.1.stackTraces = false) (hA : ∀ e ∈ ctA, cOk l pg RRS SHF e) : ∀ e ∈ cts_7, cOk l pg RRS SHF e := List.forall_mem_cons.mpr ⟨meth_ok pg_ok mtL_ok hl0 (oks_6 hl0 hA) ⟨by decide +kernel, by decide +kernel, by decide +kernel⟩ (by decide +kernel) cks_7, (oks_6 hl0 hA)⟩
/-- FullHouse.work -/
def ens_8 : cE := (92, [some (.inl (.ref 0)), some (.inr ((-2147483648), 2147483647)), some (.inr ((-2147483648), 2147483647))], [], ([], []), [(some (some (.inr (0, 63))), [])], ["java/util/NoSuchElementException"], 2, 12)
def cts_8 : List cE := ens_8 :: cts_7
set_option maxRecDepth 100000 in
theorem cks_8 : mC pg RRS SHF mtL cts_7 ens_8 [] [] 21 = true := by decide +kernel
theorem oks_8 (hl0 : l.1.stackTraces = false) (hA : ∀ e ∈ ctA, cOk l pg RRS SHF e) : ∀ e ∈ cts_8, cOk l pg RRS SHF e := List.forall_mem_cons.mpr ⟨meth_ok pg_ok mtL_ok hl0 (oks_7 hl0 hA) ⟨by decide +kernel, by decide +kernel, by decide +kernel⟩ (by decide +kernel) cks_8, (oks_7 hl0 hA)⟩
/-- FullHouse.skill -/
def ens_9 : cE := (95, [some (.inl (.ref 0)), some (.inr ((-2147483648), 2147483647)), some (.inr ((-2147483648), 2147483647))], [], ([], []), [(some (some (.inr (0, 9))), [])], ["java/util/NoSuchElementException"], 2, 12)
def cts_9 : List cE := ens_9 :: cts_8
set_option maxRecDepth 100000 in
theorem cks_9 : mC pg RRS SHF mtL cts_8 ens_9 [] [] 24 = true := by decide +kernel
theorem oks_9 (hl0 : l.1.stackTraces = false) (hA : ∀ e ∈ ctA, cOk l pg RRS SHF e) : ∀ e ∈ cts_9, cOk l pg RRS SHF e := List.forall_mem_cons.mpr ⟨meth_ok pg_ok mtL_ok hl0 (oks_8 hl0 hA) ⟨by decide +kernel, by decide +kernel, by decide +kernel⟩ (by decide +kernel) cks_9, (oks_8 hl0 hA)⟩
/-- FullHouse.teaching -/
def ens_10 : cE := (97, [some (.inl (.ref 0)), some (.inr ((-2147483648), 2147483647)), some (.inr ((-2147483648), 2147483647))], [], ([], []), [(some (some (.inr (0, 99))), [])], ["java/util/NoSuchElementException"], 2, 12)
def cts_10 : List cE := ens_10 :: cts_9
set_option maxRecDepth 100000 in
theorem cks_10 : mC pg RRS SHF mtL cts_9 ens_10 [] [] 20 = true := by decide +kernel
theorem oks_10 (hl0 : l.1.stackTraces = false) (hA : ∀ e ∈ ctA, cOk l pg RRS SHF e) : ∀ e ∈ cts_10, cOk l pg RRS SHF e := List.forall_mem_cons.mpr ⟨meth_ok pg_ok mtL_ok hl0 (oks_9 hl0 hA) ⟨by decide +kernel, by decide +kernel, by decide +kernel⟩ (by decide +kernel) cks_10, (oks_9 hl0 hA)⟩
/-- Arrays.fill -/
def ens_11 : cE := (17, [some (.inl (.ref 37)), none], [], ([], []), [(none, [])], [], 0, 0)
def cts_11 : List cE := ens_11 :: cts_10
set_option maxRecDepth 100000 in
theorem cks_11 : mC pg RRS SHF mtL cts_10 ens_11 [(6, [(0, some (.inl (.ref 37))), (1, none), (3, some (.inr (0, 256))), (4, some (.inr (256, 256)))], [], 256, [(-1)], [])] [(0, 3, 0)] 14 = true := by decide +kernel
theorem oks_11 (hl0 : l.1.stackTraces = false) (hA : ∀ e ∈ ctA, cOk l pg RRS SHF e) : ∀ e ∈ cts_11, cOk l pg RRS SHF e := List.forall_mem_cons.mpr ⟨meth_ok pg_ok mtL_ok hl0 (oks_10 hl0 hA) ⟨by decide +kernel, by decide +kernel, by decide +kernel⟩ (by decide +kernel) cks_11, (oks_10 hl0 hA)⟩
/-- Rows.rankOwn -/
def ens_12 : cE := (106, [some (.inl (.ref 36)), some (.inl (.ref 30)), some (.inr (0, 255)), some (.inr (0, 24))], [], ([], []), [(none, [])], [], 0, 0)
def cts_12 : List cE := ens_12 :: cts_11
set_option maxRecDepth 100000 in
theorem cks_12 : mC pg RRS SHF mtL cts_11 ens_12 [(10, [(0, some (.inl (.ref 36))), (1, some (.inl (.ref 30))), (2, some (.inr (0, 255))), (3, some (.inr (0, 24))), (4, some (.inr (1, 256)))], [], 256, [(-1)], [])] [(0, 4, 0)] 43 = true := by decide +kernel
theorem oks_12 (hl0 : l.1.stackTraces = false) (hA : ∀ e ∈ ctA, cOk l pg RRS SHF e) : ∀ e ∈ cts_12, cOk l pg RRS SHF e := List.forall_mem_cons.mpr ⟨meth_ok pg_ok mtL_ok hl0 (oks_11 hl0 hA) ⟨by decide +kernel, by decide +kernel, by decide +kernel⟩ (by decide +kernel) cks_12, (oks_11 hl0 hA)⟩
/-- Rows.addPerson -/
def ens_13 : cE := (105, [some (.inl (.ref 36)), some (.inl (.ref 30)), some (.inr (0, 255)), some (.inr (0, 24))], [], ([], [(36, 3)]), [(none, [])], [], 0, 0)
def cts_13 : List cE := ens_13 :: cts_12
set_option maxRecDepth 100000 in
theorem cks_13 : mC pg RRS SHF mtL cts_12 ens_13 [(23, [(0, some (.inl (.ref 36))), (1, some (.inl (.ref 30))), (2, some (.inr (0, 255))), (3, some (.inr (0, 24))), (4, some (.inr (0, 255)))], [], 256, [257, 0], []), (47, [(0, some (.inl (.ref 36))), (1, some (.inl (.ref 30))), (2, some (.inr (0, 255))), (3, some (.inr (0, 24))), (4, some (.inr (1, 255))), (5, some (.inr (0, 255))), (6, none), (8, some (.inr (0, 255)))], [], 0, [257, 1], [])] [(0, 4, 0), (0, 8, 0)] 48 = true := by decide +kernel
theorem oks_13 (hl0 : l.1.stackTraces = false) (hA : ∀ e ∈ ctA, cOk l pg RRS SHF e) : ∀ e ∈ cts_13, cOk l pg RRS SHF e := List.forall_mem_cons.mpr ⟨meth_ok pg_ok mtL_ok hl0 (oks_12 hl0 hA) ⟨by decide +kernel, by decide +kernel, by decide +kernel⟩ (by decide +kernel) cks_13, (oks_12 hl0 hA)⟩
/-- Rows.rankOfDay -/
def ens_14 : cE := (101, [some (.inl (.ref 36)), some (.inl (.ref 17)), some (.inl (.ref 30)), some (.inr ((-2147483648), 2147483647))], [], ([], [(36, 3)]), [(some (none), [])], [], 0, 0)
def cts_14 : List cE := ens_14 :: cts_13
set_option maxRecDepth 100000 in
theorem cks_14 : mC pg RRS SHF mtL cts_13 ens_14 [(7, [(0, some (.inl (.ref 36))), (1, some (.inl (.ref 17))), (2, some (.inl (.ref 30))), (3, some (.inr ((-2147483648), 2147483647))), (4, some (.inr (0, 6)))], [], 69, [(-10), 0], []), (28, [(0, some (.inl (.ref 36))), (1, some (.inl (.ref 17))), (2, some (.inl (.ref 30))), (3, some (.inr ((-2147483648), 2147483647))), (4, some (.inr (0, 5))), (5, some (.inr (0, 8)))], [], 68, [(-10), (-1)], [])] [(0, 4, 0), (0, 5, 0)] 40 = true := by decide +kernel
theorem oks_14 (hl0 : l.1.stackTraces = false) (hA : ∀ e ∈ ctA, cOk l pg RRS SHF e) : ∀ e ∈ cts_14, cOk l pg RRS SHF e := List.forall_mem_cons.mpr ⟨meth_ok pg_ok mtL_ok hl0 (oks_13 hl0 hA) ⟨by decide +kernel, by decide +kernel, by decide +kernel⟩ (by decide +kernel) cks_14, (oks_13 hl0 hA)⟩
/-- FullHouse.day -/
def ens_15 : cE := (99, [some (.inl (.ref 0)), some (.inr ((-2147483648), 2147483647))], [], ([], [(0, 9), (36, 3)]), [(some (some (.inr ((-2147483648), 2147483647))), [])], ["java/lang/IllegalArgumentException"], 2, 12)
def cts_15 : List cE := ens_15 :: cts_14
set_option maxRecDepth 100000 in
theorem cks_15 : mC pg RRS SHF mtL cts_14 ens_15 [] [] 32 = true := by decide +kernel
theorem oks_15 (hl0 : l.1.stackTraces = false) (hA : ∀ e ∈ ctA, cOk l pg RRS SHF e) : ∀ e ∈ cts_15, cOk l pg RRS SHF e := List.forall_mem_cons.mpr ⟨meth_ok pg_ok mtL_ok hl0 (oks_14 hl0 hA) ⟨by decide +kernel, by decide +kernel, by decide +kernel⟩ (by decide +kernel) cks_15, (oks_14 hl0 hA)⟩
/-- FullHouse.does -/
def ens_16 : cE := (111, [some (.inl (.ref 0)), some (.inr ((-2147483648), 2147483647))], [], ([], []), [(some (some (.inr ((-1), 6))), [])], ["java/util/NoSuchElementException"], 2, 12)
def cts_16 : List cE := ens_16 :: cts_15
set_option maxRecDepth 100000 in
theorem cks_16 : mC pg RRS SHF mtL cts_15 ens_16 [] [] 29 = true := by decide +kernel
theorem oks_16 (hl0 : l.1.stackTraces = false) (hA : ∀ e ∈ ctA, cOk l pg RRS SHF e) : ∀ e ∈ cts_16, cOk l pg RRS SHF e := List.forall_mem_cons.mpr ⟨meth_ok pg_ok mtL_ok hl0 (oks_15 hl0 hA) ⟨by decide +kernel, by decide +kernel, by decide +kernel⟩ (by decide +kernel) cks_16, (oks_15 hl0 hA)⟩
/-- Lefts.greatestNumber -/
def ens_17 : cE := (115, [some (.inl (.ref 33)), some (.inr ((-2147483648), 2147483647))], [], ([], []), [(some (some (.inr (0, 8))), [])], [], 0, 0)
def cts_17 : List cE := ens_17 :: cts_16
set_option maxRecDepth 100000 in
theorem cks_17 : mC pg RRS SHF mtL cts_16 ens_17 [(4, [(0, some (.inl (.ref 33))), (1, some (.inr ((-2147483648), 2147483647))), (2, some (.inr (0, 8))), (3, some (.inr (1, 9)))], [], 9, [(-1)], [])] [(0, 3, 0)] 23 = true := by decide +kernel
theorem oks_17 (hl0 : l.1.stackTraces = false) (hA : ∀ e ∈ ctA, cOk l pg RRS SHF e) : ∀ e ∈ cts_17, cOk l pg RRS SHF e := List.forall_mem_cons.mpr ⟨meth_ok pg_ok mtL_ok hl0 (oks_16 hl0 hA) ⟨by decide +kernel, by decide +kernel, by decide +kernel⟩ (by decide +kernel) cks_17, (oks_16 hl0 hA)⟩
/-- FullHouse.most -/
def ens_18 : cE := (114, [some (.inl (.ref 0)), some (.inr ((-2147483648), 2147483647))], [], ([], []), [(some (some (.inr (0, 8))), [])], ["java/lang/IllegalArgumentException"], 2, 12)
def cts_18 : List cE := ens_18 :: cts_17
set_option maxRecDepth 100000 in
theorem cks_18 : mC pg RRS SHF mtL cts_17 ens_18 [] [] 19 = true := by decide +kernel
theorem oks_18 (hl0 : l.1.stackTraces = false) (hA : ∀ e ∈ ctA, cOk l pg RRS SHF e) : ∀ e ∈ cts_18, cOk l pg RRS SHF e := List.forall_mem_cons.mpr ⟨meth_ok pg_ok mtL_ok hl0 (oks_17 hl0 hA) ⟨by decide +kernel, by decide +kernel, by decide +kernel⟩ (by decide +kernel) cks_18, (oks_17 hl0 hA)⟩
/-- Lefts.smallestUndone -/
def ens_19 : cE := (118, [some (.inl (.ref 33)), some (.inl (.ref 17)), some (.inr ((-2147483648), 2147483647))], [], ([], []), [(some (some (.inr ((-1), 255))), [])], [], 0, 0)
def cts_19 : List cE := ens_19 :: cts_18
set_option maxRecDepth 100000 in
theorem cks_19 : mC pg RRS SHF mtL cts_18 ens_19 [(5, [(0, some (.inl (.ref 33))), (1, some (.inl (.ref 17))), (2, some (.inr ((-2147483648), 2147483647))), (3, some (.inr ((-1), 255))), (4, some (.inr (0, 256)))], [], 256, [(-1)], [])] [(0, 4, 0)] 40 = true := by decide +kernel
theorem oks_19 (hl0 : l.1.stackTraces = false) (hA : ∀ e ∈ ctA, cOk l pg RRS SHF e) : ∀ e ∈ cts_19, cOk l pg RRS SHF e := List.forall_mem_cons.mpr ⟨meth_ok pg_ok mtL_ok hl0 (oks_18 hl0 hA) ⟨by decide +kernel, by decide +kernel, by decide +kernel⟩ (by decide +kernel) cks_19, (oks_18 hl0 hA)⟩
/-- FullHouse.bars -/
def ens_20 : cE := (117, [some (.inl (.ref 0)), some (.inr ((-2147483648), 2147483647))], [], ([], []), [(some (some (.inr ((-1), 255))), [])], ["java/lang/IllegalArgumentException"], 2, 12)
def cts_20 : List cE := ens_20 :: cts_19
set_option maxRecDepth 100000 in
theorem cks_20 : mC pg RRS SHF mtL cts_19 ens_20 [] [] 19 = true := by decide +kernel
theorem oks_20 (hl0 : l.1.stackTraces = false) (hA : ∀ e ∈ ctA, cOk l pg RRS SHF e) : ∀ e ∈ cts_20, cOk l pg RRS SHF e := List.forall_mem_cons.mpr ⟨meth_ok pg_ok mtL_ok hl0 (oks_19 hl0 hA) ⟨by decide +kernel, by decide +kernel, by decide +kernel⟩ (by decide +kernel) cks_20, (oks_19 hl0 hA)⟩
/-- FullHouse.tell -/
def ens_21 : cE := (27, [some (.inl (.ref 0)), some (.inr ((-2147483648), 2147483647)), some (.inr ((-2147483648), 2147483647))], [], ([48, 57], []), [(some (some (.inr (0, 1))), [])], [], 2, 12)
def cts_21 : List cE := ens_21 :: cts_20
set_option maxRecDepth 100000 in
theorem cks_21 : mC pg RRS SHF mtL cts_20 ens_21 [] [] 30 = true := by decide +kernel
theorem oks_21 (hl0 : l.1.stackTraces = false) (hA : ∀ e ∈ ctA, cOk l pg RRS SHF e) : ∀ e ∈ cts_21, cOk l pg RRS SHF e := List.forall_mem_cons.mpr ⟨meth_ok pg_ok mtL_ok hl0 (oks_20 hl0 hA) ⟨by decide +kernel, by decide +kernel, by decide +kernel⟩ (by decide +kernel) cks_21, (oks_20 hl0 hA)⟩
/-- FullHouse.flawOfTold -/
def ens_22 : cE := (122, [some (.inl (.ref 0)), some (.inr (0, 0)), some (.inr ((-2147483648), 2147483647))], [], ([], []), [(some (some (.inr (0, 5))), [])], [], 0, 0)
def cts_22 : List cE := ens_22 :: cts_21
set_option maxRecDepth 100000 in
theorem cks_22 : mC pg RRS SHF mtL cts_21 ens_22 [(66, [(0, some (.inl (.ref 0))), (1, some (.inr (0, 0))), (2, some (.inr ((-2147483648), 2147483647))), (3, some (.inr (0, 5))), (4, some (.inr (0, 0))), (5, some (.inr (0, 8))), (6, some (.inr (0, 0)))], [], 0, [], [])] [] 41 = true := by decide +kernel
theorem oks_22 (hl0 : l.1.stackTraces = false) (hA : ∀ e ∈ ctA, cOk l pg RRS SHF e) : ∀ e ∈ cts_22, cOk l pg RRS SHF e := List.forall_mem_cons.mpr ⟨meth_ok pg_ok mtL_ok hl0 (oks_21 hl0 hA) ⟨by decide +kernel, by decide +kernel, by decide +kernel⟩ (by decide +kernel) cks_22, (oks_21 hl0 hA)⟩
/-- FullHouse.flawOfTold -/
def ens_23 : cE := (122, [some (.inl (.ref 0)), some (.inr (0, 1)), some (.inr ((-2147483648), 2147483647))], [], ([], []), [(some (some (.inr (0, 5))), [])], [], 0, 0)
def cts_23 : List cE := ens_23 :: cts_22
set_option maxRecDepth 100000 in
theorem cks_23 : mC pg RRS SHF mtL cts_22 ens_23 [(66, [(0, some (.inl (.ref 0))), (1, some (.inr (0, 1))), (2, some (.inr ((-2147483648), 2147483647))), (3, some (.inr (0, 5))), (4, some (.inr (0, 2147483647))), (5, some (.inr ((-2147483648), 2147483647))), (6, some (.inr (0, 1)))], [], 1, [(-1)], [])] [(0, 6, 0)] 41 = true := by decide +kernel
theorem oks_23 (hl0 : l.1.stackTraces = false) (hA : ∀ e ∈ ctA, cOk l pg RRS SHF e) : ∀ e ∈ cts_23, cOk l pg RRS SHF e := List.forall_mem_cons.mpr ⟨meth_ok pg_ok mtL_ok hl0 (oks_22 hl0 hA) ⟨by decide +kernel, by decide +kernel, by decide +kernel⟩ (by decide +kernel) cks_23, (oks_22 hl0 hA)⟩
/-- FullHouse.flawOfTold -/
def ens_24 : cE := (122, [some (.inl (.ref 0)), some (.inr (0, 2)), some (.inr ((-2147483648), 2147483647))], [], ([], []), [(some (some (.inr (0, 5))), [])], [], 0, 0)
def cts_24 : List cE := ens_24 :: cts_23
set_option maxRecDepth 100000 in
theorem cks_24 : mC pg RRS SHF mtL cts_23 ens_24 [(66, [(0, some (.inl (.ref 0))), (1, some (.inr (0, 2))), (2, some (.inr ((-2147483648), 2147483647))), (3, some (.inr (0, 5))), (4, some (.inr (0, 2147483647))), (5, some (.inr ((-2147483648), 2147483647))), (6, some (.inr (0, 2)))], [], 2, [(-1)], [])] [(0, 6, 0)] 41 = true := by decide +kernel
theorem oks_24 (hl0 : l.1.stackTraces = false) (hA : ∀ e ∈ ctA, cOk l pg RRS SHF e) : ∀ e ∈ cts_24, cOk l pg RRS SHF e := List.forall_mem_cons.mpr ⟨meth_ok pg_ok mtL_ok hl0 (oks_23 hl0 hA) ⟨by decide +kernel, by decide +kernel, by decide +kernel⟩ (by decide +kernel) cks_24, (oks_23 hl0 hA)⟩
/-- FullHouse.flawOfTold -/
def ens_25 : cE := (122, [some (.inl (.ref 0)), some (.inr (0, 3)), some (.inr ((-2147483648), 2147483647))], [], ([], []), [(some (some (.inr (0, 5))), [])], [], 0, 0)
def cts_25 : List cE := ens_25 :: cts_24
set_option maxRecDepth 100000 in
theorem cks_25 : mC pg RRS SHF mtL cts_24 ens_25 [(66, [(0, some (.inl (.ref 0))), (1, some (.inr (0, 3))), (2, some (.inr ((-2147483648), 2147483647))), (3, some (.inr (0, 5))), (4, some (.inr (0, 2147483647))), (5, some (.inr ((-2147483648), 2147483647))), (6, some (.inr (0, 3)))], [], 3, [(-1)], [])] [(0, 6, 0)] 41 = true := by decide +kernel
theorem oks_25 (hl0 : l.1.stackTraces = false) (hA : ∀ e ∈ ctA, cOk l pg RRS SHF e) : ∀ e ∈ cts_25, cOk l pg RRS SHF e := List.forall_mem_cons.mpr ⟨meth_ok pg_ok mtL_ok hl0 (oks_24 hl0 hA) ⟨by decide +kernel, by decide +kernel, by decide +kernel⟩ (by decide +kernel) cks_25, (oks_24 hl0 hA)⟩
/-- FullHouse.flawOfTold -/
def ens_26 : cE := (122, [some (.inl (.ref 0)), some (.inr (0, 4)), some (.inr ((-2147483648), 2147483647))], [], ([], []), [(some (some (.inr (0, 5))), [])], [], 0, 0)
def cts_26 : List cE := ens_26 :: cts_25
set_option maxRecDepth 100000 in
theorem cks_26 : mC pg RRS SHF mtL cts_25 ens_26 [(66, [(0, some (.inl (.ref 0))), (1, some (.inr (0, 4))), (2, some (.inr ((-2147483648), 2147483647))), (3, some (.inr (0, 5))), (4, some (.inr (0, 2147483647))), (5, some (.inr ((-2147483648), 2147483647))), (6, some (.inr (0, 4)))], [], 4, [(-1)], [])] [(0, 6, 0)] 41 = true := by decide +kernel
theorem oks_26 (hl0 : l.1.stackTraces = false) (hA : ∀ e ∈ ctA, cOk l pg RRS SHF e) : ∀ e ∈ cts_26, cOk l pg RRS SHF e := List.forall_mem_cons.mpr ⟨meth_ok pg_ok mtL_ok hl0 (oks_25 hl0 hA) ⟨by decide +kernel, by decide +kernel, by decide +kernel⟩ (by decide +kernel) cks_26, (oks_25 hl0 hA)⟩
/-- FullHouse.flawOfTold -/
def ens_27 : cE := (122, [some (.inl (.ref 0)), some (.inr (0, 5)), some (.inr ((-2147483648), 2147483647))], [], ([], []), [(some (some (.inr (0, 5))), [])], [], 0, 0)
def cts_27 : List cE := ens_27 :: cts_26
set_option maxRecDepth 100000 in
theorem cks_27 : mC pg RRS SHF mtL cts_26 ens_27 [(66, [(0, some (.inl (.ref 0))), (1, some (.inr (0, 5))), (2, some (.inr ((-2147483648), 2147483647))), (3, some (.inr (0, 5))), (4, some (.inr (0, 2147483647))), (5, some (.inr ((-2147483648), 2147483647))), (6, some (.inr (0, 5)))], [], 5, [(-1)], [])] [(0, 6, 0)] 41 = true := by decide +kernel
theorem oks_27 (hl0 : l.1.stackTraces = false) (hA : ∀ e ∈ ctA, cOk l pg RRS SHF e) : ∀ e ∈ cts_27, cOk l pg RRS SHF e := List.forall_mem_cons.mpr ⟨meth_ok pg_ok mtL_ok hl0 (oks_26 hl0 hA) ⟨by decide +kernel, by decide +kernel, by decide +kernel⟩ (by decide +kernel) cks_27, (oks_26 hl0 hA)⟩
/-- FullHouse.flawOfTold -/
def ens_28 : cE := (122, [some (.inl (.ref 0)), some (.inr (0, 6)), some (.inr ((-2147483648), 2147483647))], [], ([], []), [(some (some (.inr (0, 5))), [])], [], 0, 0)
def cts_28 : List cE := ens_28 :: cts_27
set_option maxRecDepth 100000 in
theorem cks_28 : mC pg RRS SHF mtL cts_27 ens_28 [(66, [(0, some (.inl (.ref 0))), (1, some (.inr (0, 6))), (2, some (.inr ((-2147483648), 2147483647))), (3, some (.inr (0, 5))), (4, some (.inr (0, 2147483647))), (5, some (.inr ((-2147483648), 2147483647))), (6, some (.inr (0, 6)))], [], 6, [(-1)], [])] [(0, 6, 0)] 41 = true := by decide +kernel
theorem oks_28 (hl0 : l.1.stackTraces = false) (hA : ∀ e ∈ ctA, cOk l pg RRS SHF e) : ∀ e ∈ cts_28, cOk l pg RRS SHF e := List.forall_mem_cons.mpr ⟨meth_ok pg_ok mtL_ok hl0 (oks_27 hl0 hA) ⟨by decide +kernel, by decide +kernel, by decide +kernel⟩ (by decide +kernel) cks_28, (oks_27 hl0 hA)⟩
/-- FullHouse.flawOfTold -/
def ens_29 : cE := (122, [some (.inl (.ref 0)), some (.inr (0, 7)), some (.inr ((-2147483648), 2147483647))], [], ([], []), [(some (some (.inr (0, 5))), [])], [], 0, 0)
def cts_29 : List cE := ens_29 :: cts_28
set_option maxRecDepth 100000 in
theorem cks_29 : mC pg RRS SHF mtL cts_28 ens_29 [(66, [(0, some (.inl (.ref 0))), (1, some (.inr (0, 7))), (2, some (.inr ((-2147483648), 2147483647))), (3, some (.inr (0, 5))), (4, some (.inr (0, 2147483647))), (5, some (.inr ((-2147483648), 2147483647))), (6, some (.inr (0, 7)))], [], 7, [(-1)], [])] [(0, 6, 0)] 41 = true := by decide +kernel
theorem oks_29 (hl0 : l.1.stackTraces = false) (hA : ∀ e ∈ ctA, cOk l pg RRS SHF e) : ∀ e ∈ cts_29, cOk l pg RRS SHF e := List.forall_mem_cons.mpr ⟨meth_ok pg_ok mtL_ok hl0 (oks_28 hl0 hA) ⟨by decide +kernel, by decide +kernel, by decide +kernel⟩ (by decide +kernel) cks_29, (oks_28 hl0 hA)⟩
/-- FullHouse.judge -/
def ens_30 : cE := (121, [some (.inl (.ref 0)), some (.inr ((-2147483648), 2147483647))], [], ([], []), [(some (some (.inr ((-1), 75))), [])], ["java/lang/IllegalArgumentException"], 2, 12)
def cts_30 : List cE := ens_30 :: cts_29
set_option maxRecDepth 100000 in
theorem cks_30 : mC pg RRS SHF mtL cts_29 ens_30 [(7, [(0, some (.inl (.ref 0))), (1, some (.inr ((-2147483648), 2147483647))), (2, some (.inr (0, 8)))], [], 8, [(-1)], [])] [(0, 2, 0)] 23 = true := by decide +kernel
theorem oks_30 (hl0 : l.1.stackTraces = false) (hA : ∀ e ∈ ctA, cOk l pg RRS SHF e) : ∀ e ∈ cts_30, cOk l pg RRS SHF e := List.forall_mem_cons.mpr ⟨meth_ok pg_ok mtL_ok hl0 (oks_29 hl0 hA) ⟨by decide +kernel, by decide +kernel, by decide +kernel⟩ (by decide +kernel) cks_30, (oks_29 hl0 hA)⟩
/-- House.whenAnyOneIsAway -/
def ens_31 : cE := (31, [some (.inl (.ref 17))], [], ([], []), [(some (none), [])], [], 0, 0)
def cts_31 : List cE := ens_31 :: cts_30
set_option maxRecDepth 100000 in
theorem cks_31 : mC pg RRS SHF mtL cts_30 ens_31 [(4, [(0, some (.inl (.ref 17))), (1, none), (3, some (.inr (0, 6)))], [], 6, [(-1)], [])] [(0, 3, 0)] 22 = true := by decide +kernel
theorem oks_31 (hl0 : l.1.stackTraces = false) (hA : ∀ e ∈ ctA, cOk l pg RRS SHF e) : ∀ e ∈ cts_31, cOk l pg RRS SHF e := List.forall_mem_cons.mpr ⟨meth_ok pg_ok mtL_ok hl0 (oks_30 hl0 hA) ⟨by decide +kernel, by decide +kernel, by decide +kernel⟩ (by decide +kernel) cks_31, (oks_30 hl0 hA)⟩
/-- House.whenAnyTwoAreAway -/
def ens_32 : cE := (127, [some (.inl (.ref 17))], [], ([], []), [(some (none), [])], [], 0, 0)
def cts_32 : List cE := ens_32 :: cts_31
set_option maxRecDepth 100000 in
theorem cks_32 : mC pg RRS SHF mtL cts_31 ens_32 [(17, [(0, some (.inl (.ref 17))), (1, none), (3, some (.inr (0, 6)))], [], 48, [(-7), 0], []), (30, [(0, some (.inl (.ref 17))), (1, none), (3, some (.inr (0, 5))), (4, some (.inr (1, 6)))], [], 48, [(-7), (-1)], [])] [(0, 3, 0), (0, 4, 0)] 26 = true := by decide +kernel
theorem oks_32 (hl0 : l.1.stackTraces = false) (hA : ∀ e ∈ ctA, cOk l pg RRS SHF e) : ∀ e ∈ cts_32, cOk l pg RRS SHF e := List.forall_mem_cons.mpr ⟨meth_ok pg_ok mtL_ok hl0 (oks_31 hl0 hA) ⟨by decide +kernel, by decide +kernel, by decide +kernel⟩ (by decide +kernel) cks_32, (oks_31 hl0 hA)⟩
/-- Lefts.missedCouples -/
def ens_33 : cE := (126, [some (.inl (.ref 33)), some (.inl (.ref 17))], [], ([], []), [(some (some (.inr ((-2147483648), 2147483647))), [])], [], 0, 0)
def cts_33 : List cE := ens_33 :: cts_32
set_option maxRecDepth 100000 in
theorem cks_33 : mC pg RRS SHF mtL cts_32 ens_33 [(4, [(0, some (.inl (.ref 33))), (1, some (.inl (.ref 17))), (2, some (.inr ((-2147483648), 2147483647))), (3, some (.inr (0, 6)))], [], 48, [(-7), 0], []), (17, [(0, some (.inl (.ref 33))), (1, some (.inl (.ref 17))), (2, some (.inr ((-2147483648), 2147483647))), (3, some (.inr (0, 5))), (4, some (.inr (1, 6)))], [], 48, [(-7), (-1)], [])] [(0, 3, 0), (0, 4, 0)] 39 = true := by decide +kernel
theorem oks_33 (hl0 : l.1.stackTraces = false) (hA : ∀ e ∈ ctA, cOk l pg RRS SHF e) : ∀ e ∈ cts_33, cOk l pg RRS SHF e := List.forall_mem_cons.mpr ⟨meth_ok pg_ok mtL_ok hl0 (oks_32 hl0 hA) ⟨by decide +kernel, by decide +kernel, by decide +kernel⟩ (by decide +kernel) cks_33, (oks_32 hl0 hA)⟩
/-- Lefts.missedPeople -/
def ens_34 : cE := (125, [some (.inl (.ref 33)), some (.inl (.ref 17))], [], ([], []), [(some (some (.inr (0, 63))), [])], [], 0, 0)
def cts_34 : List cE := ens_34 :: cts_33
set_option maxRecDepth 100000 in
theorem cks_34 : mC pg RRS SHF mtL cts_33 ens_34 [(4, [(0, some (.inl (.ref 33))), (1, some (.inl (.ref 17))), (2, some (.inr (0, 63))), (3, some (.inr (0, 6)))], [], 6, [(-1)], [])] [(0, 3, 0)] 33 = true := by decide +kernel
theorem oks_34 (hl0 : l.1.stackTraces = false) (hA : ∀ e ∈ ctA, cOk l pg RRS SHF e) : ∀ e ∈ cts_34, cOk l pg RRS SHF e := List.forall_mem_cons.mpr ⟨meth_ok pg_ok mtL_ok hl0 (oks_33 hl0 hA) ⟨by decide +kernel, by decide +kernel, by decide +kernel⟩ (by decide +kernel) cks_34, (oks_33 hl0 hA)⟩
/-- FullHouse.any -/
def ens_35 : cE := (124, [some (.inl (.ref 0)), some (.inr ((-2147483648), 2147483647))], [], ([], []), [(some (some (.inr ((-2147483648), 2147483647))), [])], ["java/util/NoSuchElementException"], 2, 12)
def cts_35 : List cE := ens_35 :: cts_34
set_option maxRecDepth 100000 in
theorem cks_35 : mC pg RRS SHF mtL cts_34 ens_35 [] [] 28 = true := by decide +kernel
theorem oks_35 (hl0 : l.1.stackTraces = false) (hA : ∀ e ∈ ctA, cOk l pg RRS SHF e) : ∀ e ∈ cts_35, cOk l pg RRS SHF e := List.forall_mem_cons.mpr ⟨meth_ok pg_ok mtL_ok hl0 (oks_34 hl0 hA) ⟨by decide +kernel, by decide +kernel, by decide +kernel⟩ (by decide +kernel) cks_35, (oks_34 hl0 hA)⟩
/-- Lefts.withHelp -/
def ens_36 : cE := (19, [some (.inl (.ref 33)), some (.inl (.ref 30)), some (.inr (0, 255)), some (.inr (0, 255)), some (.inr (24, 24))], [], ([], []), [(some (none), [])], [], 0, 0)
def cts_36 : List cE := ens_36 :: cts_35
set_option maxRecDepth 100000 in
theorem cks_36 : mC pg RRS SHF mtL cts_35 ens_36 [(17, [(0, some (.inl (.ref 33))), (1, some (.inl (.ref 30))), (2, some (.inr (0, 255))), (3, some (.inr (0, 255))), (4, some (.inr (24, 24))), (5, some (.inr (0, 255))), (6, none), (8, some (.inr (0, 255)))], [], 0, [1], [])] [(0, 8, 0)] 29 = true := by decide +kernel
theorem oks_36 (hl0 : l.1.stackTraces = false) (hA : ∀ e ∈ ctA, cOk l pg RRS SHF e) : ∀ e ∈ cts_36, cOk l pg RRS SHF e := List.forall_mem_cons.mpr ⟨meth_ok pg_ok mtL_ok hl0 (oks_35 hl0 hA) ⟨by decide +kernel, by decide +kernel, by decide +kernel⟩ (by decide +kernel) cks_36, (oks_35 hl0 hA)⟩
/-- FullHouse.more -/
def ens_37 : cE := (30, [some (.inl (.ref 0))], [], ([], []), [(some (some (.inr ((-1), 255))), [])], [], 2, 12)
def cts_37 : List cE := ens_37 :: cts_36
set_option maxRecDepth 100000 in
theorem cks_37 : mC pg RRS SHF mtL cts_36 ens_37 [(22, [(0, some (.inl (.ref 0))), (1, none), (3, some (.inr (0, 255))), (4, some (.inr ((-1), 255))), (5, some (.inr (0, 256)))], [], 256, [(-1)], [])] [(0, 5, 0)] 38 = true := by decide +kernel
theorem oks_37 (hl0 : l.1.stackTraces = false) (hA : ∀ e ∈ ctA, cOk l pg RRS SHF e) : ∀ e ∈ cts_37, cOk l pg RRS SHF e := List.forall_mem_cons.mpr ⟨meth_ok pg_ok mtL_ok hl0 (oks_36 hl0 hA) ⟨by decide +kernel, by decide +kernel, by decide +kernel⟩ (by decide +kernel) cks_37, (oks_36 hl0 hA)⟩
/-- Guest.skillsSeen -/
def ens_38 : cE := (147, [some (.inl (.ref 17)), none], [], ([], []), [(some (some (.inr ((-2147483648), 2147483647))), [])], [], 0, 0)
def cts_38 : List cE := ens_38 :: cts_37
set_option maxRecDepth 100000 in
theorem cks_38 : mC pg RRS SHF mtL cts_37 ens_38 [(5, [(0, some (.inl (.ref 17))), (1, none), (3, some (.inr ((-2147483648), 2147483647))), (4, some (.inr (0, 8)))], [], 8, [(-1)], [])] [(0, 4, 0)] 39 = true := by decide +kernel
theorem oks_38 (hl0 : l.1.stackTraces = false) (hA : ∀ e ∈ ctA, cOk l pg RRS SHF e) : ∀ e ∈ cts_38, cOk l pg RRS SHF e := List.forall_mem_cons.mpr ⟨meth_ok pg_ok mtL_ok hl0 (oks_37 hl0 hA) ⟨by decide +kernel, by decide +kernel, by decide +kernel⟩ (by decide +kernel) cks_38, (oks_37 hl0 hA)⟩
/-- House.allChances -/
def ens_39 : cE := (71, [some (.inl (.ref 17))], [], ([], []), [(some (some (.inr ((-2147483648), 2147483647))), [])], [], 0, 0)
def cts_39 : List cE := ens_39 :: cts_38
set_option maxRecDepth 100000 in
theorem cks_39 : mC pg RRS SHF mtL cts_38 ens_39 [(4, [(0, some (.inl (.ref 17))), (1, some (.inr ((-2147483648), 2147483647))), (2, some (.inr (0, 6)))], [], 6, [(-1)], [])] [(0, 2, 0)] 18 = true := by decide +kernel
theorem oks_39 (hl0 : l.1.stackTraces = false) (hA : ∀ e ∈ ctA, cOk l pg RRS SHF e) : ∀ e ∈ cts_39, cOk l pg RRS SHF e := List.forall_mem_cons.mpr ⟨meth_ok pg_ok mtL_ok hl0 (oks_38 hl0 hA) ⟨by decide +kernel, by decide +kernel, by decide +kernel⟩ (by decide +kernel) cks_39, (oks_38 hl0 hA)⟩
/-- Guest.prepare -/
def ens_40 : cE := (146, [some (.inl (.ref 45)), some (.inl (.ref 17)), some (.inl (.ref 30)), some (.inl (.ref 36))], [], ([46, 47], [(36, 3), (45, 2)]), [(none, [])], [], 0, 0)
def cts_40 : List cE := ens_40 :: cts_39
set_option maxRecDepth 100000 in
theorem cks_40 : mC pg RRS SHF mtL cts_39 ens_40 [(9, [(0, some (.inl (.ref 45))), (1, some (.inl (.ref 17))), (2, some (.inl (.ref 30))), (3, some (.inl (.ref 36))), (4, some (.inr (0, 63))), (5, some (.inr (0, 6)))], [], 6, [(-1)], [])] [(0, 5, 0)] 34 = true := by decide +kernel
theorem oks_40 (hl0 : l.1.stackTraces = false) (hA : ∀ e ∈ ctA, cOk l pg RRS SHF e) : ∀ e ∈ cts_40, cOk l pg RRS SHF e := List.forall_mem_cons.mpr ⟨meth_ok pg_ok mtL_ok hl0 (oks_39 hl0 hA) ⟨by decide +kernel, by decide +kernel, by decide +kernel⟩ (by decide +kernel) cks_40, (oks_39 hl0 hA)⟩
/-- Guest.signsOf -/
def ens_41 : cE := (148, [some (.inl (.ref 17)), some (.inr ((-2147483648), 2147483647))], [], ([], []), [(some (some (.inr ((-2147483648), 2147483647))), [])], [], 0, 0)
def cts_41 : List cE := ens_41 :: cts_40
set_option maxRecDepth 100000 in
theorem cks_41 : mC pg RRS SHF mtL cts_40 ens_41 [(4, [(0, some (.inl (.ref 17))), (1, some (.inr ((-2147483648), 2147483647))), (2, some (.inr ((-2147483648), 2147483647))), (3, some (.inr (0, 8)))], [], 8, [(-1)], [])] [(0, 3, 0)] 25 = true := by decide +kernel
theorem oks_41 (hl0 : l.1.stackTraces = false) (hA : ∀ e ∈ ctA, cOk l pg RRS SHF e) : ∀ e ∈ cts_41, cOk l pg RRS SHF e := List.forall_mem_cons.mpr ⟨meth_ok pg_ok mtL_ok hl0 (oks_40 hl0 hA) ⟨by decide +kernel, by decide +kernel, by decide +kernel⟩ (by decide +kernel) cks_41, (oks_40 hl0 hA)⟩
/-- Guest.likelyRight -/
def ens_42 : cE := (145, [some (.inl (.ref 45)), some (.inl (.ref 17)), some (.inl (.ref 30)), some (.inl (.ref 36)), some (.inr ((-2147483648), 2147483647))], [], ([46, 47], [(36, 3), (45, 2)]), [(some (some (.inr ((-2147483648), 2147483647))), [])], [], 0, 0)
def cts_42 : List cE := ens_42 :: cts_41
set_option maxRecDepth 100000 in
theorem cks_42 : mC pg RRS SHF mtL cts_41 ens_42 [(28, [(0, some (.inl (.ref 45))), (1, some (.inl (.ref 17))), (2, some (.inl (.ref 30))), (3, some (.inl (.ref 36))), (4, some (.inr ((-2147483648), 2147483647))), (5, some (.inr ((-2147483648), 2147483647))), (6, some (.inr ((-2147483648), 2147483647))), (7, some (.inr (0, 7)))], [], 71, [(-9), 0], []), (43, [(0, some (.inl (.ref 45))), (1, some (.inl (.ref 17))), (2, some (.inl (.ref 30))), (3, some (.inl (.ref 36))), (4, some (.inr ((-2147483648), 2147483647))), (5, some (.inr ((-2147483648), 2147483647))), (6, some (.inr ((-2147483648), 2147483647))), (7, some (.inr (0, 6))), (8, some (.inr (0, 1))), (9, some (.inr (0, 7)))], [], 70, [(-9), (-1)], [])] [(0, 7, 0), (0, 9, 0)] 43 = true := by decide +kernel
theorem oks_42 (hl0 : l.1.stackTraces = false) (hA : ∀ e ∈ ctA, cOk l pg RRS SHF e) : ∀ e ∈ cts_42, cOk l pg RRS SHF e := List.forall_mem_cons.mpr ⟨meth_ok pg_ok mtL_ok hl0 (oks_41 hl0 hA) ⟨by decide +kernel, by decide +kernel, by decide +kernel⟩ (by decide +kernel) cks_42, (oks_41 hl0 hA)⟩
/-- FullHouse.looks -/
def ens_43 : cE := (144, [some (.inl (.ref 0)), some (.inr ((-2147483648), 2147483647))], [], ([46, 47], [(36, 3), (45, 2)]), [(some (some (.inr ((-2147483648), 2147483647))), [])], ["java/lang/IllegalArgumentException"], 2, 12)
def cts_43 : List cE := ens_43 :: cts_42
set_option maxRecDepth 100000 in
theorem cks_43 : mC pg RRS SHF mtL cts_42 ens_43 [] [] 24 = true := by decide +kernel
theorem oks_43 (hl0 : l.1.stackTraces = false) (hA : ∀ e ∈ ctA, cOk l pg RRS SHF e) : ∀ e ∈ cts_43, cOk l pg RRS SHF e := List.forall_mem_cons.mpr ⟨meth_ok pg_ok mtL_ok hl0 (oks_42 hl0 hA) ⟨by decide +kernel, by decide +kernel, by decide +kernel⟩ (by decide +kernel) cks_43, (oks_42 hl0 hA)⟩
/-- FullHouse.best -/
def ens_44 : cE := (150, [some (.inl (.ref 0)), some (.inr ((-2147483648), 2147483647))], [], ([46, 47], [(36, 3), (45, 2)]), [(some (some (.inr (0, 255))), [])], ["java/lang/IllegalArgumentException"], 2, 12)
def cts_44 : List cE := ens_44 :: cts_43
set_option maxRecDepth 100000 in
theorem cks_44 : mC pg RRS SHF mtL cts_43 ens_44 [(33, [(0, some (.inl (.ref 0))), (1, some (.inr (0, 8))), (2, some (.inr (0, 255))), (3, some (.inr ((-1), 2147483647))), (4, some (.inr (0, 256)))], [], 256, [(-1)], [])] [(0, 4, 0)] 34 = true := by decide +kernel
theorem oks_44 (hl0 : l.1.stackTraces = false) (hA : ∀ e ∈ ctA, cOk l pg RRS SHF e) : ∀ e ∈ cts_44, cOk l pg RRS SHF e := List.forall_mem_cons.mpr ⟨meth_ok pg_ok mtL_ok hl0 (oks_43 hl0 hA) ⟨by decide +kernel, by decide +kernel, by decide +kernel⟩ (by decide +kernel) cks_44, (oks_43 hl0 hA)⟩
/-- FullHouse.often -/
def ens_45 : cE := (152, [some (.inl (.ref 0)), some (.inr ((-2147483648), 2147483647)), some (.inr ((-2147483648), 2147483647))], [], ([], []), [(some (some (.inr ((-1), 1000))), [])], ["java/lang/IllegalArgumentException", "java/util/NoSuchElementException"], 2, 12)
def cts_45 : List cE := ens_45 :: cts_44
set_option maxRecDepth 100000 in
theorem cks_45 : mC pg RRS SHF mtL cts_44 ens_45 [(53, [(0, some (.inl (.ref 0))), (1, some (.inr (0, 5))), (2, some (.inr (0, 1000))), (3, some (.inr (1, 1000))), (4, some (.inr (1000, 1000000))), (5, some (.inr (0, 1001)))], [], 1001, [(-1)], [])] [(0, 5, 0)] 27 = true := by decide +kernel
theorem oks_45 (hl0 : l.1.stackTraces = false) (hA : ∀ e ∈ ctA, cOk l pg RRS SHF e) : ∀ e ∈ cts_45, cOk l pg RRS SHF e := List.forall_mem_cons.mpr ⟨meth_ok pg_ok mtL_ok hl0 (oks_44 hl0 hA) ⟨by decide +kernel, by decide +kernel, by decide +kernel⟩ (by decide +kernel) cks_45, (oks_44 hl0 hA)⟩
/-- FullHouse.seldom -/
def ens_46 : cE := (154, [some (.inl (.ref 0)), some (.inr ((-2147483648), 2147483647)), some (.inr ((-2147483648), 2147483647))], [], ([], []), [(some (some (.inr ((-2147483648), 2147483647))), [])], ["java/lang/IllegalArgumentException", "java/util/NoSuchElementException"], 2, 12)
def cts_46 : List cE := ens_46 :: cts_45
set_option maxRecDepth 100000 in
theorem cks_46 : mC pg RRS SHF mtL cts_45 ens_46 [(34, [(0, some (.inl (.ref 0))), (1, some (.inr (0, 5))), (2, some (.inr (0, 5000))), (3, none), (5, some (.inr (0, 5000)))], [], 5000, [(-1)], [])] [(0, 5, 0)] 23 = true := by decide +kernel
theorem oks_46 (hl0 : l.1.stackTraces = false) (hA : ∀ e ∈ ctA, cOk l pg RRS SHF e) : ∀ e ∈ cts_46, cOk l pg RRS SHF e := List.forall_mem_cons.mpr ⟨meth_ok pg_ok mtL_ok hl0 (oks_45 hl0 hA) ⟨by decide +kernel, by decide +kernel, by decide +kernel⟩ (by decide +kernel) cks_46, (oks_45 hl0 hA)⟩
/-- Arrays.fill -/
def ens_47 : cE := (12, [some (.inl (.ref 51)), some (.inr ((-1), (-1)))], [], ([51], []), [(none, [])], [], 0, 0)
def cts_47 : List cE := ens_47 :: cts_46
set_option maxRecDepth 100000 in
theorem cks_47 : mC pg RRS SHF mtL cts_46 ens_47 [(5, [(0, some (.inl (.ref 51))), (1, some (.inr ((-1), (-1)))), (2, some (.inr (0, 48))), (3, some (.inr (48, 48)))], [], 48, [(-1)], [])] [(0, 2, 0)] 14 = true := by decide +kernel
theorem oks_47 (hl0 : l.1.stackTraces = false) (hA : ∀ e ∈ ctA, cOk l pg RRS SHF e) : ∀ e ∈ cts_47, cOk l pg RRS SHF e := List.forall_mem_cons.mpr ⟨meth_ok pg_ok mtL_ok hl0 (oks_46 hl0 hA) ⟨by decide +kernel, by decide +kernel, by decide +kernel⟩ (by decide +kernel) cks_47, (oks_46 hl0 hA)⟩
/-- FullHouse.begin -/
def ens_48 : cE := (33, [some (.inl (.ref 0)), some (.inr ((-2147483648), 2147483647))], [], ([51, 52], [(49, 0), (49, 1), (49, 2)]), [(none, [])], [], 2, 12)
def cts_48 : List cE := ens_48 :: cts_47
set_option maxRecDepth 100000 in
theorem cks_48 : mC pg RRS SHF mtL cts_47 ens_48 [] [] 33 = true := by decide +kernel
theorem oks_48 (hl0 : l.1.stackTraces = false) (hA : ∀ e ∈ ctA, cOk l pg RRS SHF e) : ∀ e ∈ cts_48, cOk l pg RRS SHF e := List.forall_mem_cons.mpr ⟨meth_ok pg_ok mtL_ok hl0 (oks_47 hl0 hA) ⟨by decide +kernel, by decide +kernel, by decide +kernel⟩ (by decide +kernel) cks_48, (oks_47 hl0 hA)⟩
/-- Weeks.drawAway -/
def ens_49 : cE := (158, [some (.inl (.ref 49)), some (.inl (.ref 17))], [], ([], [(49, 2)]), [(some (some (.inr (0, 7))), [])], [], 0, 0)
def cts_49 : List cE := ens_49 :: cts_48
set_option maxRecDepth 100000 in
theorem cks_49 : mC pg RRS SHF mtL cts_48 ens_49 [(13, [(0, some (.inl (.ref 49))), (1, some (.inl (.ref 17))), (2, some (.inr (0, 999))), (3, some (.inr (0, 999))), (4, some (.inr (0, 6)))], [], 6, [(-1)], [])] [(0, 4, 0)] 27 = true := by decide +kernel
theorem oks_49 (hl0 : l.1.stackTraces = false) (hA : ∀ e ∈ ctA, cOk l pg RRS SHF e) : ∀ e ∈ cts_49, cOk l pg RRS SHF e := List.forall_mem_cons.mpr ⟨meth_ok pg_ok mtL_ok hl0 (oks_48 hl0 hA) ⟨by decide +kernel, by decide +kernel, by decide +kernel⟩ (by decide +kernel) cks_49, (oks_48 hl0 hA)⟩
/-- Rows.codeOfWeek -/
def ens_50 : cE := (160, [some (.inl (.ref 36)), some (.inl (.ref 17)), some (.inl (.ref 30)), some (.inl (.ref 49)), some (.inr (0, 7))], [], ([], [(36, 3)]), [(some (some (.inr ((-2147483648), 2147483647))), [])], [], 0, 0)
def cts_50 : List cE := ens_50 :: cts_49
set_option maxRecDepth 100000 in
theorem cks_50 : mC pg RRS SHF mtL cts_49 ens_50 [(7, [(0, some (.inl (.ref 36))), (1, some (.inl (.ref 17))), (2, some (.inl (.ref 30))), (3, some (.inl (.ref 49))), (4, some (.inr (0, 7))), (5, some (.inr (0, 6)))], [], 325, [(-10), 0, 0], []), (26, [(0, some (.inl (.ref 36))), (1, some (.inl (.ref 17))), (2, some (.inl (.ref 30))), (3, some (.inl (.ref 49))), (4, some (.inr (0, 7))), (5, some (.inr (0, 5))), (6, some (.inr (0, 8)))], [], 324, [(-10), (-1), 0], []), (116, [(0, some (.inl (.ref 36))), (1, some (.inl (.ref 17))), (2, some (.inl (.ref 30))), (3, some (.inl (.ref 49))), (4, some (.inr (0, 7))), (5, none), (7, some (.inr (0, 255)))], [], 0, [0, 0, 1], [])] [(0, 5, 0), (0, 6, 0), (0, 7, 0)] 45 = true := by decide +kernel
theorem oks_50 (hl0 : l.1.stackTraces = false) (hA : ∀ e ∈ ctA, cOk l pg RRS SHF e) : ∀ e ∈ cts_50, cOk l pg RRS SHF e := List.forall_mem_cons.mpr ⟨meth_ok pg_ok mtL_ok hl0 (oks_49 hl0 hA) ⟨by decide +kernel, by decide +kernel, by decide +kernel⟩ (by decide +kernel) cks_50, (oks_49 hl0 hA)⟩
/-- Weeks.dropUnused -/
def ens_51 : cE := (162, [some (.inl (.ref 49)), some (.inl (.ref 17))], [], ([52], []), [(none, [])], [], 0, 0)
def cts_51 : List cE := ens_51 :: cts_50
set_option maxRecDepth 100000 in
theorem cks_51 : mC pg RRS SHF mtL cts_50 ens_51 [(2, [(0, some (.inl (.ref 49))), (1, some (.inl (.ref 17))), (2, some (.inr (0, 6)))], [], 69, [(-10), 0], []), (12, [(0, some (.inl (.ref 49))), (1, some (.inl (.ref 17))), (2, some (.inr (0, 5))), (3, some (.inr (0, 8)))], [], 68, [(-10), (-1)], [])] [(0, 2, 0), (0, 3, 0)] 37 = true := by decide +kernel
theorem oks_51 (hl0 : l.1.stackTraces = false) (hA : ∀ e ∈ ctA, cOk l pg RRS SHF e) : ∀ e ∈ cts_51, cOk l pg RRS SHF e := List.forall_mem_cons.mpr ⟨meth_ok pg_ok mtL_ok hl0 (oks_50 hl0 hA) ⟨by decide +kernel, by decide +kernel, by decide +kernel⟩ (by decide +kernel) cks_51, (oks_50 hl0 hA)⟩
/-- Weeks.live -/
def ens_52 : cE := (157, [some (.inl (.ref 49)), some (.inl (.ref 17)), some (.inl (.ref 30)), some (.inl (.ref 36))], [], ([50, 51, 52], [(36, 3), (49, 1), (49, 2)]), [(none, [])], [], 0, 0)
def cts_52 : List cE := ens_52 :: cts_51
set_option maxRecDepth 100000 in
theorem cks_52 : mC pg RRS SHF mtL cts_51 ens_52 [(32, [(0, some (.inl (.ref 49))), (1, some (.inl (.ref 17))), (2, some (.inl (.ref 30))), (3, some (.inl (.ref 36))), (4, some (.inr (0, 7))), (5, some (.inr ((-2147483648), 2147483647))), (6, some (.inr (0, 8)))], [(49, 1, (0, 199), none)], 8, [(-1)], [])] [(0, 6, 0)] 32 = true := by decide +kernel
theorem oks_52 (hl0 : l.1.stackTraces = false) (hA : ∀ e ∈ ctA, cOk l pg RRS SHF e) : ∀ e ∈ cts_52, cOk l pg RRS SHF e := List.forall_mem_cons.mpr ⟨meth_ok pg_ok mtL_ok hl0 (oks_51 hl0 hA) ⟨by decide +kernel, by decide +kernel, by decide +kernel⟩ (by decide +kernel) cks_52, (oks_51 hl0 hA)⟩
/-- FullHouse.on -/
def ens_53 : cE := (156, [some (.inl (.ref 0)), some (.inr ((-2147483648), 2147483647))], [], ([50, 51, 52, 57], [(36, 3), (49, 1), (49, 2)]), [(some (some (.inr ((-1), 200))), [])], ["java/lang/IllegalArgumentException"], 2, 12)
def cts_53 : List cE := ens_53 :: cts_52
set_option maxRecDepth 100000 in
theorem cks_53 : mC pg RRS SHF mtL cts_52 ens_53 [(60, [(0, some (.inl (.ref 0))), (1, some (.inr (0, 60))), (2, some (.inr (0, 60)))], [], 60, [(-1)], [])] [(0, 2, 0)] 31 = true := by decide +kernel
theorem oks_53 (hl0 : l.1.stackTraces = false) (hA : ∀ e ∈ ctA, cOk l pg RRS SHF e) : ∀ e ∈ cts_53, cOk l pg RRS SHF e := List.forall_mem_cons.mpr ⟨meth_ok pg_ok mtL_ok hl0 (oks_52 hl0 hA) ⟨by decide +kernel, by decide +kernel, by decide +kernel⟩ (by decide +kernel) cks_53, (oks_52 hl0 hA)⟩
/-- Weeks.doneIn -/
def ens_54 : cE := (166, [some (.inl (.ref 49)), some (.inl (.ref 17)), some (.inr (0, 199))], [], ([], []), [(some (some (.inr ((-2147483648), 2147483647))), [])], [], 0, 0)
def cts_54 : List cE := ens_54 :: cts_53
set_option maxRecDepth 100000 in
theorem cks_54 : mC pg RRS SHF mtL cts_53 ens_54 [(5, [(0, some (.inl (.ref 49))), (1, some (.inl (.ref 17))), (2, some (.inr (0, 199))), (3, some (.inr ((-2147483648), 2147483647))), (4, some (.inr (0, 8)))], [], 8, [(-1)], [])] [(0, 4, 0)] 32 = true := by decide +kernel
theorem oks_54 (hl0 : l.1.stackTraces = false) (hA : ∀ e ∈ ctA, cOk l pg RRS SHF e) : ∀ e ∈ cts_54, cOk l pg RRS SHF e := List.forall_mem_cons.mpr ⟨meth_ok pg_ok mtL_ok hl0 (oks_53 hl0 hA) ⟨by decide +kernel, by decide +kernel, by decide +kernel⟩ (by decide +kernel) cks_54, (oks_53 hl0 hA)⟩
/-- FullHouse.week -/
def ens_55 : cE := (164, [some (.inl (.ref 0)), some (.inr ((-2147483648), 2147483647)), some (.inr ((-2147483648), 2147483647))], [], ([], []), [(some (some (.inr ((-2147483648), 2147483647))), [])], ["java/util/NoSuchElementException"], 2, 12)
def cts_55 : List cE := ens_55 :: cts_54
set_option maxRecDepth 100000 in
theorem cks_55 : mC pg RRS SHF mtL cts_54 ens_55 [] [] 53 = true := by decide +kernel
theorem oks_55 (hl0 : l.1.stackTraces = false) (hA : ∀ e ∈ ctA, cOk l pg RRS SHF e) : ∀ e ∈ cts_55, cOk l pg RRS SHF e := List.forall_mem_cons.mpr ⟨meth_ok pg_ok mtL_ok hl0 (oks_54 hl0 hA) ⟨by decide +kernel, by decide +kernel, by decide +kernel⟩ (by decide +kernel) cks_55, (oks_54 hl0 hA)⟩
/-- FullHouse.knows -/
def ens_56 : cE := (169, [some (.inl (.ref 0)), some (.inr ((-2147483648), 2147483647))], [], ([], []), [(some (some (.inr (0, 255))), [])], ["java/util/NoSuchElementException"], 2, 12)
def cts_56 : List cE := ens_56 :: cts_55
set_option maxRecDepth 100000 in
theorem cks_56 : mC pg RRS SHF mtL cts_55 ens_56 [] [] 21 = true := by decide +kernel
theorem oks_56 (hl0 : l.1.stackTraces = false) (hA : ∀ e ∈ ctA, cOk l pg RRS SHF e) : ∀ e ∈ cts_56, cOk l pg RRS SHF e := List.forall_mem_cons.mpr ⟨meth_ok pg_ok mtL_ok hl0 (oks_55 hl0 hA) ⟨by decide +kernel, by decide +kernel, by decide +kernel⟩ (by decide +kernel) cks_56, (oks_55 hl0 hA)⟩
/-- FullHouse.image -/
def ens_57 : cE := (35, [some (.inl (.ref 0))], [], ([54, 55, 56], [(53, 0), (53, 1), (53, 2)]), [(some (some (.inr (0, 1))), [])], [], 2, 12)
def cts_57 : List cE := ens_57 :: cts_56
set_option maxRecDepth 100000 in
theorem cks_57 : mC pg RRS SHF mtL cts_56 ens_57 [] [] 53 = true := by decide +kernel
theorem oks_57 (hl0 : l.1.stackTraces = false) (hA : ∀ e ∈ ctA, cOk l pg RRS SHF e) : ∀ e ∈ cts_57, cOk l pg RRS SHF e := List.forall_mem_cons.mpr ⟨meth_ok pg_ok mtL_ok hl0 (oks_56 hl0 hA) ⟨by decide +kernel, by decide +kernel, by decide +kernel⟩ (by decide +kernel) cks_57, (oks_56 hl0 hA)⟩
/-- FullHouse.restore -/
def ens_58 : cE := (37, [some (.inl (.ref 0))], [], ([50, 51, 52], [(49, 0), (49, 1), (49, 2)]), [(some (some (.inr (0, 1))), [])], [], 2, 12)
def cts_58 : List cE := ens_58 :: cts_57
set_option maxRecDepth 100000 in
theorem cks_58 : mC pg RRS SHF mtL cts_57 ens_58 [] [] 53 = true := by decide +kernel
theorem oks_58 (hl0 : l.1.stackTraces = false) (hA : ∀ e ∈ ctA, cOk l pg RRS SHF e) : ∀ e ∈ cts_58, cOk l pg RRS SHF e := List.forall_mem_cons.mpr ⟨meth_ok pg_ok mtL_ok hl0 (oks_57 hl0 hA) ⟨by decide +kernel, by decide +kernel, by decide +kernel⟩ (by decide +kernel) cks_58, (oks_57 hl0 hA)⟩
/-- Learning.cheapestOf -/
def ens_59 : cE := (137, [some (.inl (.ref 17)), some (.inr (0, 7)), some (.inr (0, 255))], [], ([], []), [(some (some (.inr ((-1), 7))), [])], [], 0, 0)
def cts_59 : List cE := ens_59 :: cts_58
set_option maxRecDepth 100000 in
theorem cks_59 : mC pg RRS SHF mtL cts_58 ens_59 [(5, [(0, some (.inl (.ref 17))), (1, some (.inr (0, 7))), (2, some (.inr (0, 255))), (3, some (.inr ((-1), 7))), (4, some (.inr (0, 8)))], [], 8, [(-1)], [])] [(0, 4, 0)] 42 = true := by decide +kernel
theorem oks_59 (hl0 : l.1.stackTraces = false) (hA : ∀ e ∈ ctA, cOk l pg RRS SHF e) : ∀ e ∈ cts_59, cOk l pg RRS SHF e := List.forall_mem_cons.mpr ⟨meth_ok pg_ok mtL_ok hl0 (oks_58 hl0 hA) ⟨by decide +kernel, by decide +kernel, by decide +kernel⟩ (by decide +kernel) cks_59, (oks_58 hl0 hA)⟩
/-- Learning.bound -/
def ens_60 : cE := (136, [some (.inl (.ref 40)), some (.inl (.ref 17)), some (.inr (3, 3))], [], ([], []), [(some (some (.inr ((-2147483648), 2147483647))), [])], [], 0, 0)
def cts_60 : List cE := ens_60 :: cts_59
set_option maxRecDepth 100000 in
theorem cks_60 : mC pg RRS SHF mtL cts_59 ens_60 [(5, [(0, some (.inl (.ref 40))), (1, some (.inl (.ref 17))), (2, some (.inr (3, 3))), (3, some (.inr ((-2147483648), 2147483647))), (4, some (.inr (0, 8)))], [], 44, [(-5), 0], []), (34, [(0, some (.inl (.ref 40))), (1, some (.inl (.ref 17))), (2, some (.inr (3, 3))), (3, some (.inr ((-2147483648), 2147483647))), (4, some (.inr (0, 7))), (5, some (.inr ((-5), 3))), (6, some (.inr (0, 255))), (7, some (.inr (0, 3)))], [], 43, [(-5), (-1)], [])] [(0, 4, 0), (0, 7, 0)] 31 = true := by decide +kernel
theorem oks_60 (hl0 : l.1.stackTraces = false) (hA : ∀ e ∈ ctA, cOk l pg RRS SHF e) : ∀ e ∈ cts_60, cOk l pg RRS SHF e := List.forall_mem_cons.mpr ⟨meth_ok pg_ok mtL_ok hl0 (oks_59 hl0 hA) ⟨by decide +kernel, by decide +kernel, by decide +kernel⟩ (by decide +kernel) cks_60, (oks_59 hl0 hA)⟩
end CT
