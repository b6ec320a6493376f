section CT
variable {l : aL}
/-- Integer.bitCount -/
def en_1 : cE := (21, [some (.inr (0, 255))], [], ([], []), [(some (some (.inr (0, 8))), [])], [], 0, 0)
def ct_1 : List cE := en_1 :: ctA
set_option maxRecDepth 100000 in
theorem ck_1 : mC pg RR SHF mtL ctA en_1 [] [] 48 = true := by decide +kernel
theorem ok_1 (hl0 : l.1.stackTraces = false) (hA : ∀ e ∈ ctA, cOk l pg RR SHF e) : ∀ e ∈ ct_1, cOk l pg RR SHF e := List.forall_mem_cons.mpr ⟨meth_ok pg_ok mtL_ok hl0 hA ⟨by decide +kernel, by decide +kernel, by decide +kernel⟩ (by decide +kernel) ck_1, hA⟩
/-- Integer.numberOfTrailingZeros -/
def en_2 : cE := (107, [some (.inr (1, 255))], [], ([], []), [(some (some (.inr (0, 7))), [])], [], 0, 0)
def ct_2 : List cE := en_2 :: ct_1
set_option maxRecDepth 100000 in
theorem ck_2 : mC pg RR SHF mtL ct_1 en_2 [] [] 46 = true := by decide +kernel
theorem ok_2 (hl0 : l.1.stackTraces = false) (hA : ∀ e ∈ ctA, cOk l pg RR SHF e) : ∀ e ∈ ct_2, cOk l pg RR SHF e := List.forall_mem_cons.mpr ⟨meth_ok pg_ok mtL_ok hl0 (ok_1 hl0 hA) ⟨by decide +kernel, by decide +kernel, by decide +kernel⟩ (by decide +kernel) ck_2, (ok_1 hl0 hA)⟩
/-- Tokens.put -/
def en_3 : cE := (25, [some (.inl (.ref 2)), some (.inr ((-2147483648), 2147483647))], [], ([3], [(2, 1)]), [(none, [])], [], 0, 0)
def ct_3 : List cE := en_3 :: ct_2
set_option maxRecDepth 100000 in
theorem ck_3 : mC pg RR SHF mtL ct_2 en_3 [(3, [(0, some (.inl (.ref 2))), (1, some (.inr ((-2147483648), 2147483647))), (2, some (.inr ((-256), 24)))], [], 256, [1], [])] [(0, 2, 0)] 28 = true := by decide +kernel
theorem ok_3 (hl0 : l.1.stackTraces = false) (hA : ∀ e ∈ ctA, cOk l pg RR SHF e) : ∀ e ∈ ct_3, cOk l pg RR SHF e := List.forall_mem_cons.mpr ⟨meth_ok pg_ok mtL_ok hl0 (ok_2 hl0 hA) ⟨by decide +kernel, by decide +kernel, by decide +kernel⟩ (by decide +kernel) ck_3, (ok_2 hl0 hA)⟩
/-- FullHouse.feed -/
def en_4 : cE := (24, [some (.inl (.ref 0)), some (.inr ((-2147483648), 2147483647)), some (.inr ((-2147483648), 2147483647)), some (.inr ((-2147483648), 2147483647)), some (.inr ((-2147483648), 2147483647)), some (.inr ((-2147483648), 2147483647))], [], ([3], [(2, 1)]), [(some (some (.inr ((-1), 800))), [])], [], 2, 12)
def ct_4 : List cE := en_4 :: ct_3
set_option maxRecDepth 100000 in
theorem ck_4 : mC pg RR SHF mtL ct_3 en_4 [] [] 31 = true := by decide +kernel
theorem ok_4 (hl0 : l.1.stackTraces = false) (hA : ∀ e ∈ ctA, cOk l pg RR SHF e) : ∀ e ∈ ct_4, cOk l pg RR SHF e := List.forall_mem_cons.mpr ⟨meth_ok pg_ok mtL_ok hl0 (ok_3 hl0 hA) ⟨by decide +kernel, by decide +kernel, by decide +kernel⟩ (by decide +kernel) ck_4, (ok_3 hl0 hA)⟩
/-- FullHouse.fault -/
def en_5 : cE := (26, [some (.inl (.ref 0))], [], ([], []), [(some (some (.inr ((-1), 800))), [])], [], 2, 12)
def ct_5 : List cE := en_5 :: ct_4
set_option maxRecDepth 100000 in
theorem ck_5 : mC pg RR SHF mtL ct_4 en_5 [] [] 8 = true := by decide +kernel
theorem ok_5 (hl0 : l.1.stackTraces = false) (hA : ∀ e ∈ ctA, cOk l pg RR SHF e) : ∀ e ∈ ct_5, cOk l pg RR SHF e := List.forall_mem_cons.mpr ⟨meth_ok pg_ok mtL_ok hl0 (ok_4 hl0 hA) ⟨by decide +kernel, by decide +kernel, by decide +kernel⟩ (by decide +kernel) ck_5, (ok_4 hl0 hA)⟩
/-- FullHouse.count -/
def en_6 : cE := (86, [some (.inl (.ref 0)), some (.inr ((-2147483648), 2147483647))], [], ([], []), [(some (some (.inr ((-2147483648), 2147483647))), [])], ["java/util/NoSuchElementException"], 2, 12)
def ct_6 : List cE := en_6 :: ct_5
set_option maxRecDepth 100000 in
theorem ck_6 : mC pg RR SHF mtL ct_5 en_6 [] [] 12 = true := by decide +kernel
theorem ok_6 (hl0 : l.1.stackTraces = false) (hA : ∀ e ∈ ctA, cOk l pg RR SHF e) : ∀ e ∈ ct_6, cOk l pg RR SHF e := List.forall_mem_cons.mpr ⟨meth_ok pg_ok mtL_ok hl0 (ok_5 hl0 hA) ⟨by decide +kernel, by decide +kernel, by decide +kernel⟩ (by decide +kernel) ck_6, (ok_5 hl0 hA)⟩
/-- FullHouse.person -/
def en_7 : cE := (89, [some (.inl (.ref 0)), some (.inr ((-2147483648), 2147483647)), some (.inr ((-2147483648), 2147483647))], [], ([], []), [(some (some (.inr (0, 1000))), [])], ["java/util/NoSuchElementException"], 2, 12)
def ct_7 : List cE := en_7 :: ct_6
set_option maxRecDepth 100000 in
theorem ck_7 : mC pg RR SHF mtL ct_6 en_7 [] [] 21 = true := by decide +kernel
theorem ok_7 (hl0 : l.1.stackTraces = false) (hA : ∀ e ∈ ctA, cOk l pg RR SHF e) : ∀ e ∈ ct_7, cOk l pg RR SHF e := List.forall_mem_cons.mpr ⟨meth_ok pg_ok mtL_ok hl0 (ok_6 hl0 hA) ⟨by decide +kernel, by decide +kernel, by decide +kernel⟩ (by decide +kernel) ck_7, (ok_6 hl0 hA)⟩
/-- FullHouse.work -/
def en_8 : cE := (92, [some (.inl (.ref 0)), some (.inr ((-2147483648), 2147483647)), some (.inr ((-2147483648), 2147483647))], [], ([], []), [(some (some (.inr (0, 63))), [])], ["java/util/NoSuchElementException"], 2, 12)
def ct_8 : List cE := en_8 :: ct_7
set_option maxRecDepth 100000 in
theorem ck_8 : mC pg RR SHF mtL ct_7 en_8 [] [] 21 = true := by decide +kernel
theorem ok_8 (hl0 : l.1.stackTraces = false) (hA : ∀ e ∈ ctA, cOk l pg RR SHF e) : ∀ e ∈ ct_8, cOk l pg RR SHF e := List.forall_mem_cons.mpr ⟨meth_ok pg_ok mtL_ok hl0 (ok_7 hl0 hA) ⟨by decide +kernel, by decide +kernel, by decide +kernel⟩ (by decide +kernel) ck_8, (ok_7 hl0 hA)⟩
/-- FullHouse.skill -/
def en_9 : cE := (95, [some (.inl (.ref 0)), some (.inr ((-2147483648), 2147483647)), some (.inr ((-2147483648), 2147483647))], [], ([], []), [(some (some (.inr (0, 9))), [])], ["java/util/NoSuchElementException"], 2, 12)
def ct_9 : List cE := en_9 :: ct_8
set_option maxRecDepth 100000 in
theorem ck_9 : mC pg RR SHF mtL ct_8 en_9 [] [] 24 = true := by decide +kernel
theorem ok_9 (hl0 : l.1.stackTraces = false) (hA : ∀ e ∈ ctA, cOk l pg RR SHF e) : ∀ e ∈ ct_9, cOk l pg RR SHF e := List.forall_mem_cons.mpr ⟨meth_ok pg_ok mtL_ok hl0 (ok_8 hl0 hA) ⟨by decide +kernel, by decide +kernel, by decide +kernel⟩ (by decide +kernel) ck_9, (ok_8 hl0 hA)⟩
/-- FullHouse.teaching -/
def en_10 : cE := (97, [some (.inl (.ref 0)), some (.inr ((-2147483648), 2147483647)), some (.inr ((-2147483648), 2147483647))], [], ([], []), [(some (some (.inr (0, 99))), [])], ["java/util/NoSuchElementException"], 2, 12)
def ct_10 : List cE := en_10 :: ct_9
set_option maxRecDepth 100000 in
theorem ck_10 : mC pg RR SHF mtL ct_9 en_10 [] [] 20 = true := by decide +kernel
theorem ok_10 (hl0 : l.1.stackTraces = false) (hA : ∀ e ∈ ctA, cOk l pg RR SHF e) : ∀ e ∈ ct_10, cOk l pg RR SHF e := List.forall_mem_cons.mpr ⟨meth_ok pg_ok mtL_ok hl0 (ok_9 hl0 hA) ⟨by decide +kernel, by decide +kernel, by decide +kernel⟩ (by decide +kernel) ck_10, (ok_9 hl0 hA)⟩
/-- Arrays.fill -/
def en_11 : cE := (17, [some (.inl (.ref 37)), none], [], ([], []), [(none, [])], [], 0, 0)
def ct_11 : List cE := en_11 :: ct_10
set_option maxRecDepth 100000 in
theorem ck_11 : mC pg RR SHF mtL ct_10 en_11 [(6, [(0, some (.inl (.ref 37))), (1, none), (3, some (.inr (0, 256))), (4, some (.inr (256, 256)))], [], 256, [(-1)], [])] [(0, 3, 0)] 14 = true := by decide +kernel
theorem ok_11 (hl0 : l.1.stackTraces = false) (hA : ∀ e ∈ ctA, cOk l pg RR SHF e) : ∀ e ∈ ct_11, cOk l pg RR SHF e := List.forall_mem_cons.mpr ⟨meth_ok pg_ok mtL_ok hl0 (ok_10 hl0 hA) ⟨by decide +kernel, by decide +kernel, by decide +kernel⟩ (by decide +kernel) ck_11, (ok_10 hl0 hA)⟩
/-- Rows.rankOwn -/
def en_12 : cE := (106, [some (.inl (.ref 36)), some (.inl (.ref 30)), some (.inr (0, 255)), some (.inr (0, 24))], [], ([], []), [(none, [])], [], 0, 0)
def ct_12 : List cE := en_12 :: ct_11
set_option maxRecDepth 100000 in
theorem ck_12 : mC pg RR SHF mtL ct_11 en_12 [(10, [(0, some (.inl (.ref 36))), (1, some (.inl (.ref 30))), (2, some (.inr (0, 255))), (3, some (.inr (0, 24))), (4, some (.inr (1, 256)))], [], 256, [(-1)], [])] [(0, 4, 0)] 43 = true := by decide +kernel
theorem ok_12 (hl0 : l.1.stackTraces = false) (hA : ∀ e ∈ ctA, cOk l pg RR SHF e) : ∀ e ∈ ct_12, cOk l pg RR SHF e := List.forall_mem_cons.mpr ⟨meth_ok pg_ok mtL_ok hl0 (ok_11 hl0 hA) ⟨by decide +kernel, by decide +kernel, by decide +kernel⟩ (by decide +kernel) ck_12, (ok_11 hl0 hA)⟩
/-- Rows.addPerson -/
def en_13 : cE := (105, [some (.inl (.ref 36)), some (.inl (.ref 30)), some (.inr (0, 255)), some (.inr (0, 24))], [], ([], [(36, 3)]), [(none, [])], [], 0, 0)
def ct_13 : List cE := en_13 :: ct_12
set_option maxRecDepth 100000 in
theorem ck_13 : mC pg RR SHF mtL ct_12 en_13 [(23, [(0, some (.inl (.ref 36))), (1, some (.inl (.ref 30))), (2, some (.inr (0, 255))), (3, some (.inr (0, 24))), (4, some (.inr (0, 255)))], [], 256, [257, 0], []), (47, [(0, some (.inl (.ref 36))), (1, some (.inl (.ref 30))), (2, some (.inr (0, 255))), (3, some (.inr (0, 24))), (4, some (.inr (1, 255))), (5, some (.inr (0, 255))), (6, none), (8, some (.inr (0, 255)))], [], 0, [257, 1], [])] [(0, 4, 0), (0, 8, 0)] 48 = true := by decide +kernel
theorem ok_13 (hl0 : l.1.stackTraces = false) (hA : ∀ e ∈ ctA, cOk l pg RR SHF e) : ∀ e ∈ ct_13, cOk l pg RR SHF e := List.forall_mem_cons.mpr ⟨meth_ok pg_ok mtL_ok hl0 (ok_12 hl0 hA) ⟨by decide +kernel, by decide +kernel, by decide +kernel⟩ (by decide +kernel) ck_13, (ok_12 hl0 hA)⟩
/-- Rows.rankOfDay -/
def en_14 : cE := (101, [some (.inl (.ref 36)), some (.inl (.ref 4)), some (.inl (.ref 30)), some (.inr ((-2147483648), 2147483647))], [], ([], [(36, 3)]), [(some (none), [])], [], 0, 0)
def ct_14 : List cE := en_14 :: ct_13
set_option maxRecDepth 100000 in
theorem ck_14 : mC pg RR SHF mtL ct_13 en_14 [(7, [(0, some (.inl (.ref 36))), (1, some (.inl (.ref 4))), (2, some (.inl (.ref 30))), (3, some (.inr ((-2147483648), 2147483647))), (4, some (.inr (0, 6)))], [], 69, [(-10), 0], []), (28, [(0, some (.inl (.ref 36))), (1, some (.inl (.ref 4))), (2, some (.inl (.ref 30))), (3, some (.inr ((-2147483648), 2147483647))), (4, some (.inr (0, 5))), (5, some (.inr (0, 8)))], [], 68, [(-10), (-1)], [])] [(0, 4, 0), (0, 5, 0)] 40 = true := by decide +kernel
theorem ok_14 (hl0 : l.1.stackTraces = false) (hA : ∀ e ∈ ctA, cOk l pg RR SHF e) : ∀ e ∈ ct_14, cOk l pg RR SHF e := List.forall_mem_cons.mpr ⟨meth_ok pg_ok mtL_ok hl0 (ok_13 hl0 hA) ⟨by decide +kernel, by decide +kernel, by decide +kernel⟩ (by decide +kernel) ck_14, (ok_13 hl0 hA)⟩
/-- FullHouse.day -/
def en_15 : cE := (99, [some (.inl (.ref 0)), some (.inr ((-2147483648), 2147483647))], [], ([], [(0, 9), (36, 3)]), [(some (some (.inr ((-2147483648), 2147483647))), [])], ["java/lang/IllegalArgumentException"], 2, 12)
def ct_15 : List cE := en_15 :: ct_14
set_option maxRecDepth 100000 in
theorem ck_15 : mC pg RR SHF mtL ct_14 en_15 [] [] 32 = true := by decide +kernel
theorem ok_15 (hl0 : l.1.stackTraces = false) (hA : ∀ e ∈ ctA, cOk l pg RR SHF e) : ∀ e ∈ ct_15, cOk l pg RR SHF e := List.forall_mem_cons.mpr ⟨meth_ok pg_ok mtL_ok hl0 (ok_14 hl0 hA) ⟨by decide +kernel, by decide +kernel, by decide +kernel⟩ (by decide +kernel) ck_15, (ok_14 hl0 hA)⟩
/-- FullHouse.does -/
def en_16 : cE := (111, [some (.inl (.ref 0)), some (.inr ((-2147483648), 2147483647))], [], ([], []), [(some (some (.inr ((-1), 6))), [])], ["java/util/NoSuchElementException"], 2, 12)
def ct_16 : List cE := en_16 :: ct_15
set_option maxRecDepth 100000 in
theorem ck_16 : mC pg RR SHF mtL ct_15 en_16 [] [] 29 = true := by decide +kernel
theorem ok_16 (hl0 : l.1.stackTraces = false) (hA : ∀ e ∈ ctA, cOk l pg RR SHF e) : ∀ e ∈ ct_16, cOk l pg RR SHF e := List.forall_mem_cons.mpr ⟨meth_ok pg_ok mtL_ok hl0 (ok_15 hl0 hA) ⟨by decide +kernel, by decide +kernel, by decide +kernel⟩ (by decide +kernel) ck_16, (ok_15 hl0 hA)⟩
/-- Lefts.greatestNumber -/
def en_17 : cE := (115, [some (.inl (.ref 33)), some (.inr ((-2147483648), 2147483647))], [], ([], []), [(some (some (.inr (0, 8))), [])], [], 0, 0)
def ct_17 : List cE := en_17 :: ct_16
set_option maxRecDepth 100000 in
theorem ck_17 : mC pg RR SHF mtL ct_16 en_17 [(4, [(0, some (.inl (.ref 33))), (1, some (.inr ((-2147483648), 2147483647))), (2, some (.inr (0, 8))), (3, some (.inr (1, 9)))], [], 9, [(-1)], [])] [(0, 3, 0)] 23 = true := by decide +kernel
theorem ok_17 (hl0 : l.1.stackTraces = false) (hA : ∀ e ∈ ctA, cOk l pg RR SHF e) : ∀ e ∈ ct_17, cOk l pg RR SHF e := List.forall_mem_cons.mpr ⟨meth_ok pg_ok mtL_ok hl0 (ok_16 hl0 hA) ⟨by decide +kernel, by decide +kernel, by decide +kernel⟩ (by decide +kernel) ck_17, (ok_16 hl0 hA)⟩
/-- FullHouse.most -/
def en_18 : cE := (114, [some (.inl (.ref 0)), some (.inr ((-2147483648), 2147483647))], [], ([], []), [(some (some (.inr (0, 8))), [])], ["java/lang/IllegalArgumentException"], 2, 12)
def ct_18 : List cE := en_18 :: ct_17
set_option maxRecDepth 100000 in
theorem ck_18 : mC pg RR SHF mtL ct_17 en_18 [] [] 19 = true := by decide +kernel
theorem ok_18 (hl0 : l.1.stackTraces = false) (hA : ∀ e ∈ ctA, cOk l pg RR SHF e) : ∀ e ∈ ct_18, cOk l pg RR SHF e := List.forall_mem_cons.mpr ⟨meth_ok pg_ok mtL_ok hl0 (ok_17 hl0 hA) ⟨by decide +kernel, by decide +kernel, by decide +kernel⟩ (by decide +kernel) ck_18, (ok_17 hl0 hA)⟩
/-- Lefts.smallestUndone -/
def en_19 : cE := (118, [some (.inl (.ref 33)), some (.inl (.ref 4)), some (.inr ((-2147483648), 2147483647))], [], ([], []), [(some (some (.inr ((-1), 255))), [])], [], 0, 0)
def ct_19 : List cE := en_19 :: ct_18
set_option maxRecDepth 100000 in
theorem ck_19 : mC pg RR SHF mtL ct_18 en_19 [(5, [(0, some (.inl (.ref 33))), (1, some (.inl (.ref 4))), (2, some (.inr ((-2147483648), 2147483647))), (3, some (.inr ((-1), 255))), (4, some (.inr (0, 256)))], [], 256, [(-1)], [])] [(0, 4, 0)] 40 = true := by decide +kernel
theorem ok_19 (hl0 : l.1.stackTraces = false) (hA : ∀ e ∈ ctA, cOk l pg RR SHF e) : ∀ e ∈ ct_19, cOk l pg RR SHF e := List.forall_mem_cons.mpr ⟨meth_ok pg_ok mtL_ok hl0 (ok_18 hl0 hA) ⟨by decide +kernel, by decide +kernel, by decide +kernel⟩ (by decide +kernel) ck_19, (ok_18 hl0 hA)⟩
/-- FullHouse.bars -/
def en_20 : cE := (117, [some (.inl (.ref 0)), some (.inr ((-2147483648), 2147483647))], [], ([], []), [(some (some (.inr ((-1), 255))), [])], ["java/lang/IllegalArgumentException"], 2, 12)
def ct_20 : List cE := en_20 :: ct_19
set_option maxRecDepth 100000 in
theorem ck_20 : mC pg RR SHF mtL ct_19 en_20 [] [] 19 = true := by decide +kernel
theorem ok_20 (hl0 : l.1.stackTraces = false) (hA : ∀ e ∈ ctA, cOk l pg RR SHF e) : ∀ e ∈ ct_20, cOk l pg RR SHF e := List.forall_mem_cons.mpr ⟨meth_ok pg_ok mtL_ok hl0 (ok_19 hl0 hA) ⟨by decide +kernel, by decide +kernel, by decide +kernel⟩ (by decide +kernel) ck_20, (ok_19 hl0 hA)⟩
/-- FullHouse.tell -/
def en_21 : cE := (27, [some (.inl (.ref 0)), some (.inr ((-2147483648), 2147483647)), some (.inr ((-2147483648), 2147483647))], [], ([48, 57], []), [(some (some (.inr (0, 1))), [])], [], 2, 12)
def ct_21 : List cE := en_21 :: ct_20
set_option maxRecDepth 100000 in
theorem ck_21 : mC pg RR SHF mtL ct_20 en_21 [] [] 30 = true := by decide +kernel
theorem ok_21 (hl0 : l.1.stackTraces = false) (hA : ∀ e ∈ ctA, cOk l pg RR SHF e) : ∀ e ∈ ct_21, cOk l pg RR SHF e := List.forall_mem_cons.mpr ⟨meth_ok pg_ok mtL_ok hl0 (ok_20 hl0 hA) ⟨by decide +kernel, by decide +kernel, by decide +kernel⟩ (by decide +kernel) ck_21, (ok_20 hl0 hA)⟩
/-- FullHouse.flawOfTold -/
def en_22 : cE := (122, [some (.inl (.ref 0)), some (.inr (0, 0)), some (.inr ((-2147483648), 2147483647))], [], ([], []), [(some (some (.inr (0, 5))), [])], [], 0, 0)
def ct_22 : List cE := en_22 :: ct_21
set_option maxRecDepth 100000 in
theorem ck_22 : mC pg RR SHF mtL ct_21 en_22 [(66, [(0, some (.inl (.ref 0))), (1, some (.inr (0, 0))), (2, some (.inr ((-2147483648), 2147483647))), (3, some (.inr (0, 5))), (4, some (.inr (0, 0))), (5, some (.inr (0, 8))), (6, some (.inr (0, 0)))], [], 0, [], [])] [] 41 = true := by decide +kernel
theorem ok_22 (hl0 : l.1.stackTraces = false) (hA : ∀ e ∈ ctA, cOk l pg RR SHF e) : ∀ e ∈ ct_22, cOk l pg RR SHF e := List.forall_mem_cons.mpr ⟨meth_ok pg_ok mtL_ok hl0 (ok_21 hl0 hA) ⟨by decide +kernel, by decide +kernel, by decide +kernel⟩ (by decide +kernel) ck_22, (ok_21 hl0 hA)⟩
/-- FullHouse.flawOfTold -/
def en_23 : cE := (122, [some (.inl (.ref 0)), some (.inr (0, 1)), some (.inr ((-2147483648), 2147483647))], [], ([], []), [(some (some (.inr (0, 5))), [])], [], 0, 0)
def ct_23 : List cE := en_23 :: ct_22
set_option maxRecDepth 100000 in
theorem ck_23 : mC pg RR SHF mtL ct_22 en_23 [(66, [(0, some (.inl (.ref 0))), (1, some (.inr (0, 1))), (2, some (.inr ((-2147483648), 2147483647))), (3, some (.inr (0, 5))), (4, some (.inr (0, 2147483647))), (5, some (.inr ((-2147483648), 2147483647))), (6, some (.inr (0, 1)))], [], 1, [(-1)], [])] [(0, 6, 0)] 41 = true := by decide +kernel
theorem ok_23 (hl0 : l.1.stackTraces = false) (hA : ∀ e ∈ ctA, cOk l pg RR SHF e) : ∀ e ∈ ct_23, cOk l pg RR SHF e := List.forall_mem_cons.mpr ⟨meth_ok pg_ok mtL_ok hl0 (ok_22 hl0 hA) ⟨by decide +kernel, by decide +kernel, by decide +kernel⟩ (by decide +kernel) ck_23, (ok_22 hl0 hA)⟩
/-- FullHouse.flawOfTold -/
def en_24 : cE := (122, [some (.inl (.ref 0)), some (.inr (0, 2)), some (.inr ((-2147483648), 2147483647))], [], ([], []), [(some (some (.inr (0, 5))), [])], [], 0, 0)
def ct_24 : List cE := en_24 :: ct_23
set_option maxRecDepth 100000 in
theorem ck_24 : mC pg RR SHF mtL ct_23 en_24 [(66, [(0, some (.inl (.ref 0))), (1, some (.inr (0, 2))), (2, some (.inr ((-2147483648), 2147483647))), (3, some (.inr (0, 5))), (4, some (.inr (0, 2147483647))), (5, some (.inr ((-2147483648), 2147483647))), (6, some (.inr (0, 2)))], [], 2, [(-1)], [])] [(0, 6, 0)] 41 = true := by decide +kernel
theorem ok_24 (hl0 : l.1.stackTraces = false) (hA : ∀ e ∈ ctA, cOk l pg RR SHF e) : ∀ e ∈ ct_24, cOk l pg RR SHF e := List.forall_mem_cons.mpr ⟨meth_ok pg_ok mtL_ok hl0 (ok_23 hl0 hA) ⟨by decide +kernel, by decide +kernel, by decide +kernel⟩ (by decide +kernel) ck_24, (ok_23 hl0 hA)⟩
/-- FullHouse.flawOfTold -/
def en_25 : cE := (122, [some (.inl (.ref 0)), some (.inr (0, 3)), some (.inr ((-2147483648), 2147483647))], [], ([], []), [(some (some (.inr (0, 5))), [])], [], 0, 0)
def ct_25 : List cE := en_25 :: ct_24
set_option maxRecDepth 100000 in
theorem ck_25 : mC pg RR SHF mtL ct_24 en_25 [(66, [(0, some (.inl (.ref 0))), (1, some (.inr (0, 3))), (2, some (.inr ((-2147483648), 2147483647))), (3, some (.inr (0, 5))), (4, some (.inr (0, 2147483647))), (5, some (.inr ((-2147483648), 2147483647))), (6, some (.inr (0, 3)))], [], 3, [(-1)], [])] [(0, 6, 0)] 41 = true := by decide +kernel
theorem ok_25 (hl0 : l.1.stackTraces = false) (hA : ∀ e ∈ ctA, cOk l pg RR SHF e) : ∀ e ∈ ct_25, cOk l pg RR SHF e := List.forall_mem_cons.mpr ⟨meth_ok pg_ok mtL_ok hl0 (ok_24 hl0 hA) ⟨by decide +kernel, by decide +kernel, by decide +kernel⟩ (by decide +kernel) ck_25, (ok_24 hl0 hA)⟩
/-- FullHouse.flawOfTold -/
def en_26 : cE := (122, [some (.inl (.ref 0)), some (.inr (0, 4)), some (.inr ((-2147483648), 2147483647))], [], ([], []), [(some (some (.inr (0, 5))), [])], [], 0, 0)
def ct_26 : List cE := en_26 :: ct_25
set_option maxRecDepth 100000 in
theorem ck_26 : mC pg RR SHF mtL ct_25 en_26 [(66, [(0, some (.inl (.ref 0))), (1, some (.inr (0, 4))), (2, some (.inr ((-2147483648), 2147483647))), (3, some (.inr (0, 5))), (4, some (.inr (0, 2147483647))), (5, some (.inr ((-2147483648), 2147483647))), (6, some (.inr (0, 4)))], [], 4, [(-1)], [])] [(0, 6, 0)] 41 = true := by decide +kernel
theorem ok_26 (hl0 : l.1.stackTraces = false) (hA : ∀ e ∈ ctA, cOk l pg RR SHF e) : ∀ e ∈ ct_26, cOk l pg RR SHF e := List.forall_mem_cons.mpr ⟨meth_ok pg_ok mtL_ok hl0 (ok_25 hl0 hA) ⟨by decide +kernel, by decide +kernel, by decide +kernel⟩ (by decide +kernel) ck_26, (ok_25 hl0 hA)⟩
/-- FullHouse.flawOfTold -/
def en_27 : cE := (122, [some (.inl (.ref 0)), some (.inr (0, 5)), some (.inr ((-2147483648), 2147483647))], [], ([], []), [(some (some (.inr (0, 5))), [])], [], 0, 0)
def ct_27 : List cE := en_27 :: ct_26
set_option maxRecDepth 100000 in
theorem ck_27 : mC pg RR SHF mtL ct_26 en_27 [(66, [(0, some (.inl (.ref 0))), (1, some (.inr (0, 5))), (2, some (.inr ((-2147483648), 2147483647))), (3, some (.inr (0, 5))), (4, some (.inr (0, 2147483647))), (5, some (.inr ((-2147483648), 2147483647))), (6, some (.inr (0, 5)))], [], 5, [(-1)], [])] [(0, 6, 0)] 41 = true := by decide +kernel
theorem ok_27 (hl0 : l.1.stackTraces = false) (hA : ∀ e ∈ ctA, cOk l pg RR SHF e) : ∀ e ∈ ct_27, cOk l pg RR SHF e := List.forall_mem_cons.mpr ⟨meth_ok pg_ok mtL_ok hl0 (ok_26 hl0 hA) ⟨by decide +kernel, by decide +kernel, by decide +kernel⟩ (by decide +kernel) ck_27, (ok_26 hl0 hA)⟩
/-- FullHouse.flawOfTold -/
def en_28 : cE := (122, [some (.inl (.ref 0)), some (.inr (0, 6)), some (.inr ((-2147483648), 2147483647))], [], ([], []), [(some (some (.inr (0, 5))), [])], [], 0, 0)
def ct_28 : List cE := en_28 :: ct_27
set_option maxRecDepth 100000 in
theorem ck_28 : mC pg RR SHF mtL ct_27 en_28 [(66, [(0, some (.inl (.ref 0))), (1, some (.inr (0, 6))), (2, some (.inr ((-2147483648), 2147483647))), (3, some (.inr (0, 5))), (4, some (.inr (0, 2147483647))), (5, some (.inr ((-2147483648), 2147483647))), (6, some (.inr (0, 6)))], [], 6, [(-1)], [])] [(0, 6, 0)] 41 = true := by decide +kernel
theorem ok_28 (hl0 : l.1.stackTraces = false) (hA : ∀ e ∈ ctA, cOk l pg RR SHF e) : ∀ e ∈ ct_28, cOk l pg RR SHF e := List.forall_mem_cons.mpr ⟨meth_ok pg_ok mtL_ok hl0 (ok_27 hl0 hA) ⟨by decide +kernel, by decide +kernel, by decide +kernel⟩ (by decide +kernel) ck_28, (ok_27 hl0 hA)⟩
/-- FullHouse.flawOfTold -/
def en_29 : cE := (122, [some (.inl (.ref 0)), some (.inr (0, 7)), some (.inr ((-2147483648), 2147483647))], [], ([], []), [(some (some (.inr (0, 5))), [])], [], 0, 0)
def ct_29 : List cE := en_29 :: ct_28
set_option maxRecDepth 100000 in
theorem ck_29 : mC pg RR SHF mtL ct_28 en_29 [(66, [(0, some (.inl (.ref 0))), (1, some (.inr (0, 7))), (2, some (.inr ((-2147483648), 2147483647))), (3, some (.inr (0, 5))), (4, some (.inr (0, 2147483647))), (5, some (.inr ((-2147483648), 2147483647))), (6, some (.inr (0, 7)))], [], 7, [(-1)], [])] [(0, 6, 0)] 41 = true := by decide +kernel
theorem ok_29 (hl0 : l.1.stackTraces = false) (hA : ∀ e ∈ ctA, cOk l pg RR SHF e) : ∀ e ∈ ct_29, cOk l pg RR SHF e := List.forall_mem_cons.mpr ⟨meth_ok pg_ok mtL_ok hl0 (ok_28 hl0 hA) ⟨by decide +kernel, by decide +kernel, by decide +kernel⟩ (by decide +kernel) ck_29, (ok_28 hl0 hA)⟩
/-- FullHouse.judge -/
def en_30 : cE := (121, [some (.inl (.ref 0)), some (.inr ((-2147483648), 2147483647))], [], ([], []), [(some (some (.inr ((-1), 75))), [])], ["java/lang/IllegalArgumentException"], 2, 12)
def ct_30 : List cE := en_30 :: ct_29
set_option maxRecDepth 100000 in
theorem ck_30 : mC pg RR SHF mtL ct_29 en_30 [(7, [(0, some (.inl (.ref 0))), (1, some (.inr ((-2147483648), 2147483647))), (2, some (.inr (0, 8)))], [], 8, [(-1)], [])] [(0, 2, 0)] 23 = true := by decide +kernel
theorem ok_30 (hl0 : l.1.stackTraces = false) (hA : ∀ e ∈ ctA, cOk l pg RR SHF e) : ∀ e ∈ ct_30, cOk l pg RR SHF e := List.forall_mem_cons.mpr ⟨meth_ok pg_ok mtL_ok hl0 (ok_29 hl0 hA) ⟨by decide +kernel, by decide +kernel, by decide +kernel⟩ (by decide +kernel) ck_30, (ok_29 hl0 hA)⟩
/-- House.whenAnyOneIsAway -/
def en_31 : cE := (31, [some (.inl (.ref 4))], [], ([], []), [(some (none), [])], [], 0, 0)
def ct_31 : List cE := en_31 :: ct_30
set_option maxRecDepth 100000 in
theorem ck_31 : mC pg RR SHF mtL ct_30 en_31 [(4, [(0, some (.inl (.ref 4))), (1, none), (3, some (.inr (0, 6)))], [], 6, [(-1)], [])] [(0, 3, 0)] 22 = true := by decide +kernel
theorem ok_31 (hl0 : l.1.stackTraces = false) (hA : ∀ e ∈ ctA, cOk l pg RR SHF e) : ∀ e ∈ ct_31, cOk l pg RR SHF e := List.forall_mem_cons.mpr ⟨meth_ok pg_ok mtL_ok hl0 (ok_30 hl0 hA) ⟨by decide +kernel, by decide +kernel, by decide +kernel⟩ (by decide +kernel) ck_31, (ok_30 hl0 hA)⟩
/-- House.whenAnyTwoAreAway -/
def en_32 : cE := (127, [some (.inl (.ref 4))], [], ([], []), [(some (none), [])], [], 0, 0)
def ct_32 : List cE := en_32 :: ct_31
set_option maxRecDepth 100000 in
theorem ck_32 : mC pg RR SHF mtL ct_31 en_32 [(17, [(0, some (.inl (.ref 4))), (1, none), (3, some (.inr (0, 6)))], [], 48, [(-7), 0], []), (30, [(0, some (.inl (.ref 4))), (1, none), (3, some (.inr (0, 5))), (4, some (.inr (1, 6)))], [], 48, [(-7), (-1)], [])] [(0, 3, 0), (0, 4, 0)] 26 = true := by decide +kernel
theorem ok_32 (hl0 : l.1.stackTraces = false) (hA : ∀ e ∈ ctA, cOk l pg RR SHF e) : ∀ e ∈ ct_32, cOk l pg RR SHF e := List.forall_mem_cons.mpr ⟨meth_ok pg_ok mtL_ok hl0 (ok_31 hl0 hA) ⟨by decide +kernel, by decide +kernel, by decide +kernel⟩ (by decide +kernel) ck_32, (ok_31 hl0 hA)⟩
/-- Lefts.missedCouples -/
def en_33 : cE := (126, [some (.inl (.ref 33)), some (.inl (.ref 4))], [], ([], []), [(some (some (.inr ((-2147483648), 2147483647))), [])], [], 0, 0)
def ct_33 : List cE := en_33 :: ct_32
set_option maxRecDepth 100000 in
theorem ck_33 : mC pg RR SHF mtL ct_32 en_33 [(4, [(0, some (.inl (.ref 33))), (1, some (.inl (.ref 4))), (2, some (.inr ((-2147483648), 2147483647))), (3, some (.inr (0, 6)))], [], 48, [(-7), 0], []), (17, [(0, some (.inl (.ref 33))), (1, some (.inl (.ref 4))), (2, some (.inr ((-2147483648), 2147483647))), (3, some (.inr (0, 5))), (4, some (.inr (1, 6)))], [], 48, [(-7), (-1)], [])] [(0, 3, 0), (0, 4, 0)] 39 = true := by decide +kernel
theorem ok_33 (hl0 : l.1.stackTraces = false) (hA : ∀ e ∈ ctA, cOk l pg RR SHF e) : ∀ e ∈ ct_33, cOk l pg RR SHF e := List.forall_mem_cons.mpr ⟨meth_ok pg_ok mtL_ok hl0 (ok_32 hl0 hA) ⟨by decide +kernel, by decide +kernel, by decide +kernel⟩ (by decide +kernel) ck_33, (ok_32 hl0 hA)⟩
/-- Lefts.missedPeople -/
def en_34 : cE := (125, [some (.inl (.ref 33)), some (.inl (.ref 4))], [], ([], []), [(some (some (.inr (0, 63))), [])], [], 0, 0)
def ct_34 : List cE := en_34 :: ct_33
set_option maxRecDepth 100000 in
theorem ck_34 : mC pg RR SHF mtL ct_33 en_34 [(4, [(0, some (.inl (.ref 33))), (1, some (.inl (.ref 4))), (2, some (.inr (0, 63))), (3, some (.inr (0, 6)))], [], 6, [(-1)], [])] [(0, 3, 0)] 33 = true := by decide +kernel
theorem ok_34 (hl0 : l.1.stackTraces = false) (hA : ∀ e ∈ ctA, cOk l pg RR SHF e) : ∀ e ∈ ct_34, cOk l pg RR SHF e := List.forall_mem_cons.mpr ⟨meth_ok pg_ok mtL_ok hl0 (ok_33 hl0 hA) ⟨by decide +kernel, by decide +kernel, by decide +kernel⟩ (by decide +kernel) ck_34, (ok_33 hl0 hA)⟩
/-- FullHouse.any -/
def en_35 : cE := (124, [some (.inl (.ref 0)), some (.inr ((-2147483648), 2147483647))], [], ([], []), [(some (some (.inr ((-2147483648), 2147483647))), [])], ["java/util/NoSuchElementException"], 2, 12)
def ct_35 : List cE := en_35 :: ct_34
set_option maxRecDepth 100000 in
theorem ck_35 : mC pg RR SHF mtL ct_34 en_35 [] [] 28 = true := by decide +kernel
theorem ok_35 (hl0 : l.1.stackTraces = false) (hA : ∀ e ∈ ctA, cOk l pg RR SHF e) : ∀ e ∈ ct_35, cOk l pg RR SHF e := List.forall_mem_cons.mpr ⟨meth_ok pg_ok mtL_ok hl0 (ok_34 hl0 hA) ⟨by decide +kernel, by decide +kernel, by decide +kernel⟩ (by decide +kernel) ck_35, (ok_34 hl0 hA)⟩
/-- Lefts.withHelp -/
def en_36 : cE := (19, [some (.inl (.ref 33)), some (.inl (.ref 30)), some (.inr (0, 255)), some (.inr (0, 255)), some (.inr (24, 24))], [], ([], []), [(some (none), [])], [], 0, 0)
def ct_36 : List cE := en_36 :: ct_35
set_option maxRecDepth 100000 in
theorem ck_36 : mC pg RR SHF mtL ct_35 en_36 [(17, [(0, some (.inl (.ref 33))), (1, some (.inl (.ref 30))), (2, some (.inr (0, 255))), (3, some (.inr (0, 255))), (4, some (.inr (24, 24))), (5, some (.inr (0, 255))), (6, none), (8, some (.inr (0, 255)))], [], 0, [1], [])] [(0, 8, 0)] 29 = true := by decide +kernel
theorem ok_36 (hl0 : l.1.stackTraces = false) (hA : ∀ e ∈ ctA, cOk l pg RR SHF e) : ∀ e ∈ ct_36, cOk l pg RR SHF e := List.forall_mem_cons.mpr ⟨meth_ok pg_ok mtL_ok hl0 (ok_35 hl0 hA) ⟨by decide +kernel, by decide +kernel, by decide +kernel⟩ (by decide +kernel) ck_36, (ok_35 hl0 hA)⟩
/-- FullHouse.more -/
def en_37 : cE := (30, [some (.inl (.ref 0))], [], ([], []), [(some (some (.inr ((-1), 255))), [])], [], 2, 12)
def ct_37 : List cE := en_37 :: ct_36
set_option maxRecDepth 100000 in
theorem ck_37 : mC pg RR SHF mtL ct_36 en_37 [(22, [(0, some (.inl (.ref 0))), (1, none), (3, some (.inr (0, 255))), (4, some (.inr ((-1), 255))), (5, some (.inr (0, 256)))], [], 256, [(-1)], [])] [(0, 5, 0)] 38 = true := by decide +kernel
theorem ok_37 (hl0 : l.1.stackTraces = false) (hA : ∀ e ∈ ctA, cOk l pg RR SHF e) : ∀ e ∈ ct_37, cOk l pg RR SHF e := List.forall_mem_cons.mpr ⟨meth_ok pg_ok mtL_ok hl0 (ok_36 hl0 hA) ⟨by decide +kernel, by decide +kernel, by decide +kernel⟩ (by decide +kernel) ck_37, (ok_36 hl0 hA)⟩
/-- Guest.skillsSeen -/
def en_38 : cE := (147, [some (.inl (.ref 4)), none], [], ([], []), [(some (some (.inr ((-2147483648), 2147483647))), [])], [], 0, 0)
def ct_38 : List cE := en_38 :: ct_37
set_option maxRecDepth 100000 in
theorem ck_38 : mC pg RR SHF mtL ct_37 en_38 [(5, [(0, some (.inl (.ref 4))), (1, none), (3, some (.inr ((-2147483648), 2147483647))), (4, some (.inr (0, 8)))], [], 8, [(-1)], [])] [(0, 4, 0)] 39 = true := by decide +kernel
theorem ok_38 (hl0 : l.1.stackTraces = false) (hA : ∀ e ∈ ctA, cOk l pg RR SHF e) : ∀ e ∈ ct_38, cOk l pg RR SHF e := List.forall_mem_cons.mpr ⟨meth_ok pg_ok mtL_ok hl0 (ok_37 hl0 hA) ⟨by decide +kernel, by decide +kernel, by decide +kernel⟩ (by decide +kernel) ck_38, (ok_37 hl0 hA)⟩
/-- House.allChances -/
def en_39 : cE := (71, [some (.inl (.ref 4))], [], ([], []), [(some (some (.inr ((-2147483648), 2147483647))), [])], [], 0, 0)
def ct_39 : List cE := en_39 :: ct_38
set_option maxRecDepth 100000 in
theorem ck_39 : mC pg RR SHF mtL ct_38 en_39 [(4, [(0, some (.inl (.ref 4))), (1, some (.inr ((-2147483648), 2147483647))), (2, some (.inr (0, 6)))], [], 6, [(-1)], [])] [(0, 2, 0)] 18 = true := by decide +kernel
theorem ok_39 (hl0 : l.1.stackTraces = false) (hA : ∀ e ∈ ctA, cOk l pg RR SHF e) : ∀ e ∈ ct_39, cOk l pg RR SHF e := List.forall_mem_cons.mpr ⟨meth_ok pg_ok mtL_ok hl0 (ok_38 hl0 hA) ⟨by decide +kernel, by decide +kernel, by decide +kernel⟩ (by decide +kernel) ck_39, (ok_38 hl0 hA)⟩
/-- Guest.prepare -/
def en_40 : cE := (146, [some (.inl (.ref 45)), some (.inl (.ref 4)), some (.inl (.ref 30)), some (.inl (.ref 36))], [], ([46, 47], [(36, 3), (45, 2)]), [(none, [])], [], 0, 0)
def ct_40 : List cE := en_40 :: ct_39
set_option maxRecDepth 100000 in
theorem ck_40 : mC pg RR SHF mtL ct_39 en_40 [(9, [(0, some (.inl (.ref 45))), (1, some (.inl (.ref 4))), (2, some (.inl (.ref 30))), (3, some (.inl (.ref 36))), (4, some (.inr (0, 63))), (5, some (.inr (0, 6)))], [], 6, [(-1)], [])] [(0, 5, 0)] 34 = true := by decide +kernel
theorem ok_40 (hl0 : l.1.stackTraces = false) (hA : ∀ e ∈ ctA, cOk l pg RR SHF e) : ∀ e ∈ ct_40, cOk l pg RR SHF e := List.forall_mem_cons.mpr ⟨meth_ok pg_ok mtL_ok hl0 (ok_39 hl0 hA) ⟨by decide +kernel, by decide +kernel, by decide +kernel⟩ (by decide +kernel) ck_40, (ok_39 hl0 hA)⟩
/-- Guest.signsOf -/
def en_41 : cE := (148, [some (.inl (.ref 4)), some (.inr ((-2147483648), 2147483647))], [], ([], []), [(some (some (.inr ((-2147483648), 2147483647))), [])], [], 0, 0)
def ct_41 : List cE := en_41 :: ct_40
set_option maxRecDepth 100000 in
theorem ck_41 : mC pg RR SHF mtL ct_40 en_41 [(4, [(0, some (.inl (.ref 4))), (1, some (.inr ((-2147483648), 2147483647))), (2, some (.inr ((-2147483648), 2147483647))), (3, some (.inr (0, 8)))], [], 8, [(-1)], [])] [(0, 3, 0)] 25 = true := by decide +kernel
theorem ok_41 (hl0 : l.1.stackTraces = false) (hA : ∀ e ∈ ctA, cOk l pg RR SHF e) : ∀ e ∈ ct_41, cOk l pg RR SHF e := List.forall_mem_cons.mpr ⟨meth_ok pg_ok mtL_ok hl0 (ok_40 hl0 hA) ⟨by decide +kernel, by decide +kernel, by decide +kernel⟩ (by decide +kernel) ck_41, (ok_40 hl0 hA)⟩
/-- Guest.likelyRight -/
def en_42 : cE := (145, [some (.inl (.ref 45)), some (.inl (.ref 4)), some (.inl (.ref 30)), some (.inl (.ref 36)), some (.inr ((-2147483648), 2147483647))], [], ([46, 47], [(36, 3), (45, 2)]), [(some (some (.inr ((-2147483648), 2147483647))), [])], [], 0, 0)
def ct_42 : List cE := en_42 :: ct_41
set_option maxRecDepth 100000 in
theorem ck_42 : mC pg RR SHF mtL ct_41 en_42 [(28, [(0, some (.inl (.ref 45))), (1, some (.inl (.ref 4))), (2, some (.inl (.ref 30))), (3, some (.inl (.ref 36))), (4, some (.inr ((-2147483648), 2147483647))), (5, some (.inr ((-2147483648), 2147483647))), (6, some (.inr ((-2147483648), 2147483647))), (7, some (.inr (0, 7)))], [], 71, [(-9), 0], []), (43, [(0, some (.inl (.ref 45))), (1, some (.inl (.ref 4))), (2, some (.inl (.ref 30))), (3, some (.inl (.ref 36))), (4, some (.inr ((-2147483648), 2147483647))), (5, some (.inr ((-2147483648), 2147483647))), (6, some (.inr ((-2147483648), 2147483647))), (7, some (.inr (0, 6))), (8, some (.inr (0, 1))), (9, some (.inr (0, 7)))], [], 70, [(-9), (-1)], [])] [(0, 7, 0), (0, 9, 0)] 43 = true := by decide +kernel
theorem ok_42 (hl0 : l.1.stackTraces = false) (hA : ∀ e ∈ ctA, cOk l pg RR SHF e) : ∀ e ∈ ct_42, cOk l pg RR SHF e := List.forall_mem_cons.mpr ⟨meth_ok pg_ok mtL_ok hl0 (ok_41 hl0 hA) ⟨by decide +kernel, by decide +kernel, by decide +kernel⟩ (by decide +kernel) ck_42, (ok_41 hl0 hA)⟩
/-- FullHouse.looks -/
def en_43 : cE := (144, [some (.inl (.ref 0)), some (.inr ((-2147483648), 2147483647))], [], ([46, 47], [(36, 3), (45, 2)]), [(some (some (.inr ((-2147483648), 2147483647))), [])], ["java/lang/IllegalArgumentException"], 2, 12)
def ct_43 : List cE := en_43 :: ct_42
set_option maxRecDepth 100000 in
theorem ck_43 : mC pg RR SHF mtL ct_42 en_43 [] [] 24 = true := by decide +kernel
theorem ok_43 (hl0 : l.1.stackTraces = false) (hA : ∀ e ∈ ctA, cOk l pg RR SHF e) : ∀ e ∈ ct_43, cOk l pg RR SHF e := List.forall_mem_cons.mpr ⟨meth_ok pg_ok mtL_ok hl0 (ok_42 hl0 hA) ⟨by decide +kernel, by decide +kernel, by decide +kernel⟩ (by decide +kernel) ck_43, (ok_42 hl0 hA)⟩
/-- FullHouse.best -/
def en_44 : cE := (150, [some (.inl (.ref 0)), some (.inr ((-2147483648), 2147483647))], [], ([46, 47], [(36, 3), (45, 2)]), [(some (some (.inr (0, 255))), [])], ["java/lang/IllegalArgumentException"], 2, 12)
def ct_44 : List cE := en_44 :: ct_43
set_option maxRecDepth 100000 in
theorem ck_44 : mC pg RR SHF mtL ct_43 en_44 [(33, [(0, some (.inl (.ref 0))), (1, some (.inr (0, 8))), (2, some (.inr (0, 255))), (3, some (.inr ((-1), 2147483647))), (4, some (.inr (0, 256)))], [], 256, [(-1)], [])] [(0, 4, 0)] 34 = true := by decide +kernel
theorem ok_44 (hl0 : l.1.stackTraces = false) (hA : ∀ e ∈ ctA, cOk l pg RR SHF e) : ∀ e ∈ ct_44, cOk l pg RR SHF e := List.forall_mem_cons.mpr ⟨meth_ok pg_ok mtL_ok hl0 (ok_43 hl0 hA) ⟨by decide +kernel, by decide +kernel, by decide +kernel⟩ (by decide +kernel) ck_44, (ok_43 hl0 hA)⟩
/-- FullHouse.often -/
def en_45 : cE := (152, [some (.inl (.ref 0)), some (.inr ((-2147483648), 2147483647)), some (.inr ((-2147483648), 2147483647))], [], ([], []), [(some (some (.inr ((-1), 1000))), [])], ["java/lang/IllegalArgumentException", "java/util/NoSuchElementException"], 2, 12)
def ct_45 : List cE := en_45 :: ct_44
set_option maxRecDepth 100000 in
theorem ck_45 : mC pg RR SHF mtL ct_44 en_45 [(53, [(0, some (.inl (.ref 0))), (1, some (.inr (0, 5))), (2, some (.inr (0, 1000))), (3, some (.inr (1, 1000))), (4, some (.inr (1000, 1000000))), (5, some (.inr (0, 1001)))], [], 1001, [(-1)], [])] [(0, 5, 0)] 27 = true := by decide +kernel
theorem ok_45 (hl0 : l.1.stackTraces = false) (hA : ∀ e ∈ ctA, cOk l pg RR SHF e) : ∀ e ∈ ct_45, cOk l pg RR SHF e := List.forall_mem_cons.mpr ⟨meth_ok pg_ok mtL_ok hl0 (ok_44 hl0 hA) ⟨by decide +kernel, by decide +kernel, by decide +kernel⟩ (by decide +kernel) ck_45, (ok_44 hl0 hA)⟩
/-- FullHouse.seldom -/
def en_46 : cE := (154, [some (.inl (.ref 0)), some (.inr ((-2147483648), 2147483647)), some (.inr ((-2147483648), 2147483647))], [], ([], []), [(some (some (.inr ((-2147483648), 2147483647))), [])], ["java/lang/IllegalArgumentException", "java/util/NoSuchElementException"], 2, 12)
def ct_46 : List cE := en_46 :: ct_45
set_option maxRecDepth 100000 in
theorem ck_46 : mC pg RR SHF mtL ct_45 en_46 [(34, [(0, some (.inl (.ref 0))), (1, some (.inr (0, 5))), (2, some (.inr (0, 5000))), (3, none), (5, some (.inr (0, 5000)))], [], 5000, [(-1)], [])] [(0, 5, 0)] 23 = true := by decide +kernel
theorem ok_46 (hl0 : l.1.stackTraces = false) (hA : ∀ e ∈ ctA, cOk l pg RR SHF e) : ∀ e ∈ ct_46, cOk l pg RR SHF e := List.forall_mem_cons.mpr ⟨meth_ok pg_ok mtL_ok hl0 (ok_45 hl0 hA) ⟨by decide +kernel, by decide +kernel, by decide +kernel⟩ (by decide +kernel) ck_46, (ok_45 hl0 hA)⟩
/-- Arrays.fill -/
def en_47 : cE := (12, [some (.inl (.ref 51)), some (.inr ((-1), (-1)))], [], ([51], []), [(none, [])], [], 0, 0)
def ct_47 : List cE := en_47 :: ct_46
set_option maxRecDepth 100000 in
theorem ck_47 : mC pg RR SHF mtL ct_46 en_47 [(5, [(0, some (.inl (.ref 51))), (1, some (.inr ((-1), (-1)))), (2, some (.inr (0, 48))), (3, some (.inr (48, 48)))], [], 48, [(-1)], [])] [(0, 2, 0)] 14 = true := by decide +kernel
theorem ok_47 (hl0 : l.1.stackTraces = false) (hA : ∀ e ∈ ctA, cOk l pg RR SHF e) : ∀ e ∈ ct_47, cOk l pg RR SHF e := List.forall_mem_cons.mpr ⟨meth_ok pg_ok mtL_ok hl0 (ok_46 hl0 hA) ⟨by decide +kernel, by decide +kernel, by decide +kernel⟩ (by decide +kernel) ck_47, (ok_46 hl0 hA)⟩
/-- FullHouse.begin -/
def en_48 : cE := (33, [some (.inl (.ref 0)), some (.inr ((-2147483648), 2147483647))], [], ([51, 52], [(49, 0), (49, 1), (49, 2)]), [(none, [])], [], 2, 12)
def ct_48 : List cE := en_48 :: ct_47
set_option maxRecDepth 100000 in
theorem ck_48 : mC pg RR SHF mtL ct_47 en_48 [] [] 33 = true := by decide +kernel
theorem ok_48 (hl0 : l.1.stackTraces = false) (hA : ∀ e ∈ ctA, cOk l pg RR SHF e) : ∀ e ∈ ct_48, cOk l pg RR SHF e := List.forall_mem_cons.mpr ⟨meth_ok pg_ok mtL_ok hl0 (ok_47 hl0 hA) ⟨by decide +kernel, by decide +kernel, by decide +kernel⟩ (by decide +kernel) ck_48, (ok_47 hl0 hA)⟩
/-- Weeks.drawAway -/
def en_49 : cE := (158, [some (.inl (.ref 49)), some (.inl (.ref 4))], [], ([], [(49, 2)]), [(some (some (.inr (0, 7))), [])], [], 0, 0)
def ct_49 : List cE := en_49 :: ct_48
set_option maxRecDepth 100000 in
theorem ck_49 : mC pg RR SHF mtL ct_48 en_49 [(13, [(0, some (.inl (.ref 49))), (1, some (.inl (.ref 4))), (2, some (.inr (0, 999))), (3, some (.inr (0, 999))), (4, some (.inr (0, 6)))], [], 6, [(-1)], [])] [(0, 4, 0)] 27 = true := by decide +kernel
theorem ok_49 (hl0 : l.1.stackTraces = false) (hA : ∀ e ∈ ctA, cOk l pg RR SHF e) : ∀ e ∈ ct_49, cOk l pg RR SHF e := List.forall_mem_cons.mpr ⟨meth_ok pg_ok mtL_ok hl0 (ok_48 hl0 hA) ⟨by decide +kernel, by decide +kernel, by decide +kernel⟩ (by decide +kernel) ck_49, (ok_48 hl0 hA)⟩
/-- Rows.codeOfWeek -/
def en_50 : cE := (160, [some (.inl (.ref 36)), some (.inl (.ref 4)), some (.inl (.ref 30)), some (.inl (.ref 49)), some (.inr (0, 7))], [], ([], [(36, 3)]), [(some (some (.inr ((-2147483648), 2147483647))), [])], [], 0, 0)
def ct_50 : List cE := en_50 :: ct_49
set_option maxRecDepth 100000 in
theorem ck_50 : mC pg RR SHF mtL ct_49 en_50 [(7, [(0, some (.inl (.ref 36))), (1, some (.inl (.ref 4))), (2, some (.inl (.ref 30))), (3, some (.inl (.ref 49))), (4, some (.inr (0, 7))), (5, some (.inr (0, 6)))], [], 325, [(-10), 0, 0], []), (26, [(0, some (.inl (.ref 36))), (1, some (.inl (.ref 4))), (2, some (.inl (.ref 30))), (3, some (.inl (.ref 49))), (4, some (.inr (0, 7))), (5, some (.inr (0, 5))), (6, some (.inr (0, 8)))], [], 324, [(-10), (-1), 0], []), (116, [(0, some (.inl (.ref 36))), (1, some (.inl (.ref 4))), (2, some (.inl (.ref 30))), (3, some (.inl (.ref 49))), (4, some (.inr (0, 7))), (5, none), (7, some (.inr (0, 255)))], [], 0, [0, 0, 1], [])] [(0, 5, 0), (0, 6, 0), (0, 7, 0)] 45 = true := by decide +kernel
theorem ok_50 (hl0 : l.1.stackTraces = false) (hA : ∀ e ∈ ctA, cOk l pg RR SHF e) : ∀ e ∈ ct_50, cOk l pg RR SHF e := List.forall_mem_cons.mpr ⟨meth_ok pg_ok mtL_ok hl0 (ok_49 hl0 hA) ⟨by decide +kernel, by decide +kernel, by decide +kernel⟩ (by decide +kernel) ck_50, (ok_49 hl0 hA)⟩
/-- Weeks.dropUnused -/
def en_51 : cE := (162, [some (.inl (.ref 49)), some (.inl (.ref 4))], [], ([52], []), [(none, [])], [], 0, 0)
def ct_51 : List cE := en_51 :: ct_50
set_option maxRecDepth 100000 in
theorem ck_51 : mC pg RR SHF mtL ct_50 en_51 [(2, [(0, some (.inl (.ref 49))), (1, some (.inl (.ref 4))), (2, some (.inr (0, 6)))], [], 69, [(-10), 0], []), (12, [(0, some (.inl (.ref 49))), (1, some (.inl (.ref 4))), (2, some (.inr (0, 5))), (3, some (.inr (0, 8)))], [], 68, [(-10), (-1)], [])] [(0, 2, 0), (0, 3, 0)] 37 = true := by decide +kernel
theorem ok_51 (hl0 : l.1.stackTraces = false) (hA : ∀ e ∈ ctA, cOk l pg RR SHF e) : ∀ e ∈ ct_51, cOk l pg RR SHF e := List.forall_mem_cons.mpr ⟨meth_ok pg_ok mtL_ok hl0 (ok_50 hl0 hA) ⟨by decide +kernel, by decide +kernel, by decide +kernel⟩ (by decide +kernel) ck_51, (ok_50 hl0 hA)⟩
/-- Weeks.live -/
def en_52 : cE := (157, [some (.inl (.ref 49)), some (.inl (.ref 4)), some (.inl (.ref 30)), some (.inl (.ref 36))], [], ([50, 51, 52], [(36, 3), (49, 1), (49, 2)]), [(none, [])], [], 0, 0)
def ct_52 : List cE := en_52 :: ct_51
set_option maxRecDepth 100000 in
theorem ck_52 : mC pg RR SHF mtL ct_51 en_52 [(32, [(0, some (.inl (.ref 49))), (1, some (.inl (.ref 4))), (2, some (.inl (.ref 30))), (3, some (.inl (.ref 36))), (4, some (.inr (0, 7))), (5, some (.inr ((-2147483648), 2147483647))), (6, some (.inr (0, 8)))], [(49, 1, (0, 199), none)], 8, [(-1)], [])] [(0, 6, 0)] 32 = true := by decide +kernel
theorem ok_52 (hl0 : l.1.stackTraces = false) (hA : ∀ e ∈ ctA, cOk l pg RR SHF e) : ∀ e ∈ ct_52, cOk l pg RR SHF e := List.forall_mem_cons.mpr ⟨meth_ok pg_ok mtL_ok hl0 (ok_51 hl0 hA) ⟨by decide +kernel, by decide +kernel, by decide +kernel⟩ (by decide +kernel) ck_52, (ok_51 hl0 hA)⟩
/-- FullHouse.on -/
def en_53 : cE := (156, [some (.inl (.ref 0)), some (.inr ((-2147483648), 2147483647))], [], ([50, 51, 52, 57], [(36, 3), (49, 1), (49, 2)]), [(some (some (.inr ((-1), 200))), [])], ["java/lang/IllegalArgumentException"], 2, 12)
def ct_53 : List cE := en_53 :: ct_52
set_option maxRecDepth 100000 in
theorem ck_53 : mC pg RR SHF mtL ct_52 en_53 [(60, [(0, some (.inl (.ref 0))), (1, some (.inr (0, 60))), (2, some (.inr (0, 60)))], [], 60, [(-1)], [])] [(0, 2, 0)] 31 = true := by decide +kernel
theorem ok_53 (hl0 : l.1.stackTraces = false) (hA : ∀ e ∈ ctA, cOk l pg RR SHF e) : ∀ e ∈ ct_53, cOk l pg RR SHF e := List.forall_mem_cons.mpr ⟨meth_ok pg_ok mtL_ok hl0 (ok_52 hl0 hA) ⟨by decide +kernel, by decide +kernel, by decide +kernel⟩ (by decide +kernel) ck_53, (ok_52 hl0 hA)⟩
/-- Weeks.doneIn -/
def en_54 : cE := (166, [some (.inl (.ref 49)), some (.inl (.ref 4)), some (.inr (0, 199))], [], ([], []), [(some (some (.inr ((-2147483648), 2147483647))), [])], [], 0, 0)
def ct_54 : List cE := en_54 :: ct_53
set_option maxRecDepth 100000 in
theorem ck_54 : mC pg RR SHF mtL ct_53 en_54 [(5, [(0, some (.inl (.ref 49))), (1, some (.inl (.ref 4))), (2, some (.inr (0, 199))), (3, some (.inr ((-2147483648), 2147483647))), (4, some (.inr (0, 8)))], [], 8, [(-1)], [])] [(0, 4, 0)] 32 = true := by decide +kernel
theorem ok_54 (hl0 : l.1.stackTraces = false) (hA : ∀ e ∈ ctA, cOk l pg RR SHF e) : ∀ e ∈ ct_54, cOk l pg RR SHF e := List.forall_mem_cons.mpr ⟨meth_ok pg_ok mtL_ok hl0 (ok_53 hl0 hA) ⟨by decide +kernel, by decide +kernel, by decide +kernel⟩ (by decide +kernel) ck_54, (ok_53 hl0 hA)⟩
/-- FullHouse.week -/
def en_55 : cE := (164, [some (.inl (.ref 0)), some (.inr ((-2147483648), 2147483647)), some (.inr ((-2147483648), 2147483647))], [], ([], []), [(some (some (.inr ((-2147483648), 2147483647))), [])], ["java/util/NoSuchElementException"], 2, 12)
def ct_55 : List cE := en_55 :: ct_54
set_option maxRecDepth 100000 in
theorem ck_55 : mC pg RR SHF mtL ct_54 en_55 [] [] 53 = true := by decide +kernel
theorem ok_55 (hl0 : l.1.stackTraces = false) (hA : ∀ e ∈ ctA, cOk l pg RR SHF e) : ∀ e ∈ ct_55, cOk l pg RR SHF e := List.forall_mem_cons.mpr ⟨meth_ok pg_ok mtL_ok hl0 (ok_54 hl0 hA) ⟨by decide +kernel, by decide +kernel, by decide +kernel⟩ (by decide +kernel) ck_55, (ok_54 hl0 hA)⟩
/-- FullHouse.knows -/
def en_56 : cE := (169, [some (.inl (.ref 0)), some (.inr ((-2147483648), 2147483647))], [], ([], []), [(some (some (.inr (0, 255))), [])], ["java/util/NoSuchElementException"], 2, 12)
def ct_56 : List cE := en_56 :: ct_55
set_option maxRecDepth 100000 in
theorem ck_56 : mC pg RR SHF mtL ct_55 en_56 [] [] 21 = true := by decide +kernel
theorem ok_56 (hl0 : l.1.stackTraces = false) (hA : ∀ e ∈ ctA, cOk l pg RR SHF e) : ∀ e ∈ ct_56, cOk l pg RR SHF e := List.forall_mem_cons.mpr ⟨meth_ok pg_ok mtL_ok hl0 (ok_55 hl0 hA) ⟨by decide +kernel, by decide +kernel, by decide +kernel⟩ (by decide +kernel) ck_56, (ok_55 hl0 hA)⟩
/-- FullHouse.image -/
def en_57 : cE := (35, [some (.inl (.ref 0))], [], ([54, 55, 56], [(53, 0), (53, 1), (53, 2)]), [(some (some (.inr (0, 1))), [])], [], 2, 12)
def ct_57 : List cE := en_57 :: ct_56
set_option maxRecDepth 100000 in
theorem ck_57 : mC pg RR SHF mtL ct_56 en_57 [] [] 53 = true := by decide +kernel
theorem ok_57 (hl0 : l.1.stackTraces = false) (hA : ∀ e ∈ ctA, cOk l pg RR SHF e) : ∀ e ∈ ct_57, cOk l pg RR SHF e := List.forall_mem_cons.mpr ⟨meth_ok pg_ok mtL_ok hl0 (ok_56 hl0 hA) ⟨by decide +kernel, by decide +kernel, by decide +kernel⟩ (by decide +kernel) ck_57, (ok_56 hl0 hA)⟩
/-- FullHouse.restore -/
def en_58 : cE := (37, [some (.inl (.ref 0))], [], ([50, 51, 52], [(49, 0), (49, 1), (49, 2)]), [(some (some (.inr (0, 1))), [])], [], 2, 12)
def ct_58 : List cE := en_58 :: ct_57
set_option maxRecDepth 100000 in
theorem ck_58 : mC pg RR SHF mtL ct_57 en_58 [] [] 53 = true := by decide +kernel
theorem ok_58 (hl0 : l.1.stackTraces = false) (hA : ∀ e ∈ ctA, cOk l pg RR SHF e) : ∀ e ∈ ct_58, cOk l pg RR SHF e := List.forall_mem_cons.mpr ⟨meth_ok pg_ok mtL_ok hl0 (ok_57 hl0 hA) ⟨by decide +kernel, by decide +kernel, by decide +kernel⟩ (by decide +kernel) ck_58, (ok_57 hl0 hA)⟩
/-- Learning.cheapestOf -/
def en_59 : cE := (137, [some (.inl (.ref 4)), some (.inr (0, 7)), some (.inr (0, 255))], [], ([], []), [(some (some (.inr ((-1), 7))), [])], [], 0, 0)
def ct_59 : List cE := en_59 :: ct_58
set_option maxRecDepth 100000 in
theorem ck_59 : mC pg RR SHF mtL ct_58 en_59 [(5, [(0, some (.inl (.ref 4))), (1, some (.inr (0, 7))), (2, some (.inr (0, 255))), (3, some (.inr ((-1), 7))), (4, some (.inr (0, 8)))], [], 8, [(-1)], [])] [(0, 4, 0)] 42 = true := by decide +kernel
theorem ok_59 (hl0 : l.1.stackTraces = false) (hA : ∀ e ∈ ctA, cOk l pg RR SHF e) : ∀ e ∈ ct_59, cOk l pg RR SHF e := List.forall_mem_cons.mpr ⟨meth_ok pg_ok mtL_ok hl0 (ok_58 hl0 hA) ⟨by decide +kernel, by decide +kernel, by decide +kernel⟩ (by decide +kernel) ck_59, (ok_58 hl0 hA)⟩
/-- Learning.bound -/
def en_60 : cE := (136, [some (.inl (.ref 40)), some (.inl (.ref 4)), some (.inr (3, 3))], [], ([], []), [(some (some (.inr ((-2147483648), 2147483647))), [])], [], 0, 0)
def ct_60 : List cE := en_60 :: ct_59
set_option maxRecDepth 100000 in
theorem ck_60 : mC pg RR SHF mtL ct_59 en_60 [(5, [(0, some (.inl (.ref 40))), (1, some (.inl (.ref 4))), (2, some (.inr (3, 3))), (3, some (.inr ((-2147483648), 2147483647))), (4, some (.inr (0, 8)))], [], 44, [(-5), 0], []), (34, [(0, some (.inl (.ref 40))), (1, some (.inl (.ref 4))), (2, some (.inr (3, 3))), (3, some (.inr ((-2147483648), 2147483647))), (4, some (.inr (0, 7))), (5, some (.inr ((-5), 3))), (6, some (.inr (0, 255))), (7, some (.inr (0, 3)))], [], 43, [(-5), (-1)], [])] [(0, 4, 0), (0, 7, 0)] 31 = true := by decide +kernel
theorem ok_60 (hl0 : l.1.stackTraces = false) (hA : ∀ e ∈ ctA, cOk l pg RR SHF e) : ∀ e ∈ ct_60, cOk l pg RR SHF e := List.forall_mem_cons.mpr ⟨meth_ok pg_ok mtL_ok hl0 (ok_59 hl0 hA) ⟨by decide +kernel, by decide +kernel, by decide +kernel⟩ (by decide +kernel) ck_60, (ok_59 hl0 hA)⟩
end CT
