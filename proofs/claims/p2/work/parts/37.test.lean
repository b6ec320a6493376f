/-! contracts that the machine with intervals finds by itself: a first test -/
theorem mt_own (id : Nat) : oW[pO pg id]? = some (iO (pI pg id)) := (eL_ok id).2.1
def mtL : sMt := [(2, 105, 1), (0, 362, 0), (10, 88, 0), (7, 77, 2)]
theorem mt_0 : ∀ id, pO pg id = ((2, 105, 1) : Nat × Nat × Nat).1 → mW (pI pg id) ((2, 105, 1) : Nat × Nat × Nat).2.1 ((2, 105, 1) : Nat × Nat × Nat).2.2 := fun id h => by
    have o := mt_own id
    rw [h] at o
    have o : iO (pI pg id) = "FullHouse$Reader" := (Option.some.inj o).symm
    show _ ∧ _
    rw [o]
    exact ⟨gw_655, gw_656, gw_22, gw_657⟩
theorem mt_1 : ∀ id, pO pg id = ((0, 362, 0) : Nat × Nat × Nat).1 → mW (pI pg id) ((0, 362, 0) : Nat × Nat × Nat).2.1 ((0, 362, 0) : Nat × Nat × Nat).2.2 := fun id h => by
    have o := mt_own id
    rw [h] at o
    have o : iO (pI pg id) = "FullHouse" := (Option.some.inj o).symm
    show _ ∧ _
    rw [o]
    exact ⟨gw_955, gw_956, gw_22, gw_957⟩
theorem mt_2 : ∀ id, pO pg id = ((10, 88, 0) : Nat × Nat × Nat).1 → mW (pI pg id) ((10, 88, 0) : Nat × Nat × Nat).2.1 ((10, 88, 0) : Nat × Nat × Nat).2.2 := fun id h => by
    have o := mt_own id
    rw [h] at o
    have o : iO (pI pg id) = "FullHouse$Weeks" := (Option.some.inj o).symm
    show _ ∧ _
    rw [o]
    exact ⟨gw_1034, gw_956, gw_22, gw_957⟩
theorem mt_3 : ∀ id, pO pg id = ((7, 77, 2) : Nat × Nat × Nat).1 → mW (pI pg id) ((7, 77, 2) : Nat × Nat × Nat).2.1 ((7, 77, 2) : Nat × Nat × Nat).2.2 := fun id h => by
    have o := mt_own id
    rw [h] at o
    have o : iO (pI pg id) = "FullHouse$Rows" := (Option.some.inj o).symm
    show _ ∧ _
    rw [o]
    exact ⟨gw_1040, gw_1041, gw_22, gw_1042⟩
theorem mtL_ok : mtOk pg mtL := List.forall_mem_cons.mpr ⟨mt_0, List.forall_mem_cons.mpr ⟨mt_1, List.forall_mem_cons.mpr ⟨mt_2, List.forall_mem_cons.mpr ⟨mt_3, fun _ h => absurd h List.not_mem_nil⟩⟩⟩⟩

def RR : sR := ([(0, .inr [(9, ((-2147483648), 2147483647)), (13, ((-1), 800))]), (1, .inr [(1, (0, 5)), (2, ((-1), 800))]), (2, .inr [(1, (0, 800)), (2, (0, 800)), (3, (0, 4)), (4, (0, 800)), (5, (0, 800))]), (3, .inl ((-128), 127)), (4, .inr [(0, (0, 6)), (1, (0, 8)), (2, (0, 8)), (3, (0, 50))]), (5, .inl (0, 24)), (6, .inl (0, 1000)), (7, .inl (0, 255)), (8, .inl (0, 255)), (9, .inl (0, 23)), (10, .inl (0, 8)), (11, .inl (0, 63)), (12, .inl (0, 9)), (13, .inl (0, 5)), (14, .inl (0, 7)), (15, .inl (0, 9)), (16, .inl (0, 99)), (17, .inr [(0, (0, 6)), (1, (0, 8)), (2, (0, 8)), (3, (0, 50))]), (18, .inl (0, 24)), (19, .inl (0, 1000)), (20, .inl (0, 255)), (21, .inl (0, 255)), (22, .inl (0, 23)), (23, .inl (0, 8)), (24, .inl (0, 63)), (25, .inl (0, 9)), (26, .inl (0, 5)), (27, .inl (0, 7)), (28, .inl (0, 9)), (29, .inl (0, 99)), (30, .inr []), (31, .inl ((-2147483648), 2147483647)), (32, .inl ((-2147483648), 2147483647)), (33, .inr []), (36, .inr [(3, (0, 255))]), (40, .inr [(2, ((-2147483648), 2147483647)), (3, ((-2147483648), 2147483647))]), (41, .inr []), (44, .inl (0, 255)), (45, .inr [(2, (0, 1))]), (46, .inl ((-2147483648), 2147483647)), (47, .inl ((-2147483648), 2147483647)), (48, .inl ((-1), 5)), (49, .inr [(0, (0, 1)), (1, (0, 200)), (2, ((-2147483648), 2147483647))]), (50, .inl ((-2147483648), 2147483647)), (51, .inl ((-2147483648), 2147483647)), (52, .inl (0, 255)), (53, .inr [(0, (0, 1)), (1, (0, 200)), (2, ((-2147483648), 2147483647))]), (54, .inl ((-2147483648), 2147483647)), (55, .inl ((-2147483648), 2147483647)), (56, .inl (0, 255)), (57, .inl ((-2147483648), 2147483647)), (58, .inr [(0, (0, 2)), (1, (0, 6)), (2, (0, 8)), (3, (0, 8)), (4, (0, 50)), (12, (0, 800)), (13, (0, 5)), (14, ((-2147483648), 2147483647)), (16, (0, 800)), (17, (0, 800)), (18, (0, 4)), (19, (0, 800)), (20, ((-2147483648), 2147483647)), (21, (0, 9999)), (23, (0, 6)), (24, (0, 8)), (25, (0, 8)), (26, ((-2147483648), 2147483647)), (27, ((-2147483648), 2147483647)), (28, (0, 1)), (35, (0, 5)), (36, (0, 7)), (45, (0, 1)), (46, ((-2147483648), 2147483647)), (51, ((-1), 200)), (52, ((-2147483648), 2147483647)), (57, (0, 1)), (58, ((-1), 200)), (59, ((-2147483648), 2147483647))]), (59, .inl ((-2147483648), 2147483647)), (60, .inl ((-2147483648), 2147483647)), (61, .inl ((-2147483648), 2147483647)), (62, .inl ((-2147483648), 2147483647)), (63, .inl ((-2147483648), 2147483647)), (64, .inl ((-2147483648), 2147483647)), (65, .inl (0, 255)), (66, .inl ((-2147483648), 2147483647)), (67, .inl ((-2147483648), 2147483647)), (68, .inl ((-2147483648), 2147483647)), (69, .inl ((-2147483648), 2147483647)), (70, .inl ((-2147483648), 2147483647)), (71, .inl ((-2147483648), 2147483647)), (72, .inl ((-2147483648), 2147483647)), (73, .inl (0, 255)), (74, .inl (0, 256)), (75, .inl ((-2147483648), 2147483647)), (76, .inl ((-1), 6)), (77, .inl ((-2147483648), 2147483647)), (78, .inl ((-2147483648), 2147483647)), (79, .inl ((-1), 6)), (80, .inl ((-1), 6)), (81, .inl ((-1), 5)), (82, .inl (0, 1)), (83, .inl ((-2147483648), 2147483647)), (84, .inl ((-2147483648), 2147483647)), (85, .inl (0, 255)), (86, .inl ((-2147483648), 2147483647)), (87, .inl ((-2147483648), 2147483647)), (88, .inl ((-1), 5)), (89, .inl (0, 255)), (90, .inl ((-2147483648), 2147483647)), (91, .inl ((-2147483648), 2147483647)), (92, .inl ((-1), 5))], [(0, 0, 2), (0, 1, 5), (0, 2, 18), (0, 3, 31), (0, 4, 34), (0, 5, 37), (0, 6, 41), (0, 7, 46), (0, 8, 49), (0, 10, 50), (0, 11, 54), (0, 12, 58), (1, 0, 3), (2, 0, 4), (4, 4, 6), (4, 5, 7), (4, 6, 8), (4, 7, 9), (4, 8, 10), (4, 9, 11), (4, 10, 12), (4, 11, 13), (4, 12, 14), (4, 13, 15), (4, 14, 16), (4, 15, 17), (17, 4, 19), (17, 5, 20), (17, 6, 21), (17, 7, 22), (17, 8, 23), (17, 9, 24), (17, 10, 25), (17, 11, 26), (17, 12, 27), (17, 13, 28), (17, 14, 29), (17, 15, 30), (30, 0, 32), (30, 1, 33), (33, 0, 35), (33, 1, 36), (36, 0, 38), (36, 1, 39), (36, 2, 40), (40, 0, 42), (40, 1, 45), (41, 0, 43), (41, 1, 44), (45, 0, 47), (45, 1, 48), (49, 3, 51), (49, 4, 52), (49, 5, 53), (53, 3, 55), (53, 4, 56), (53, 5, 57), (58, 5, 60), (58, 6, 61), (58, 7, 62), (58, 8, 63), (58, 9, 64), (58, 10, 65), (58, 11, 66), (58, 15, 67), (58, 29, 68), (58, 30, 69), (58, 31, 70), (58, 32, 71), (58, 33, 72), (58, 34, 73), (58, 37, 74), (58, 38, 75), (58, 39, 76), (58, 40, 77), (58, 41, 78), (58, 42, 79), (58, 43, 80), (58, 44, 81), (58, 47, 82), (58, 48, 83), (58, 49, 84), (58, 50, 85), (58, 53, 86), (58, 54, 87), (58, 55, 88), (58, 56, 89), (58, 60, 90), (58, 61, 91), (58, 62, 92), (58, 63, 93)])
def ct_0 : List cE := []
section CT
variable {l : aL}
theorem ok_0 : ∀ e ∈ ct_0, cOk l pg RR SHF e := fun _ h => absurd h List.not_mem_nil
/-- Tokens.put -/
def en_1 : cE := (25, [some (.inl (.ref 2)), some (.inr ((-2147483648), 2147483647))], [], ([3], [(2, 1)]), [(none, [])], [], 0, 0)
def ct_1 : List cE := en_1 :: ct_0
set_option maxRecDepth 100000 in
theorem ck_1 : mC pg RR SHF mtL ct_0 en_1 [(3, [(0, some (.inl (.ref 2))), (1, some (.inr ((-2147483648), 2147483647))), (2, some (.inr ((-256), 24)))], [], 256, [1])] [(0, 2, 0)] 28 = true := by decide +kernel
theorem ok_1 (hl0 : l.1.stackTraces = false) : ∀ e ∈ ct_1, cOk l pg RR SHF e := List.forall_mem_cons.mpr ⟨meth_ok pg_ok mtL_ok hl0 ok_0 ⟨by decide +kernel, by decide +kernel, by decide +kernel⟩ (by decide +kernel) ck_1, ok_0⟩
/-- FullHouse.feed -/
def en_2 : cE := (24, [some (.inl (.ref 0)), some (.inr ((-2147483648), 2147483647)), some (.inr ((-2147483648), 2147483647)), some (.inr ((-2147483648), 2147483647)), some (.inr ((-2147483648), 2147483647)), some (.inr ((-2147483648), 2147483647))], [], ([3], [(2, 1)]), [(some (some (.inr ((-1), 800))), [])], [], 2, 12)
def ct_2 : List cE := en_2 :: ct_1
set_option maxRecDepth 100000 in
theorem ck_2 : mC pg RR SHF mtL ct_1 en_2 [] [] 31 = true := by decide +kernel
theorem ok_2 (hl0 : l.1.stackTraces = false) : ∀ e ∈ ct_2, cOk l pg RR SHF e := List.forall_mem_cons.mpr ⟨meth_ok pg_ok mtL_ok hl0 (ok_1 hl0) ⟨by decide +kernel, by decide +kernel, by decide +kernel⟩ (by decide +kernel) ck_2, ok_1 hl0⟩
/-- FullHouse.fault -/
def en_3 : cE := (26, [some (.inl (.ref 0))], [], ([], []), [(some (some (.inr ((-1), 800))), [])], [], 2, 12)
def ct_3 : List cE := en_3 :: ct_2
set_option maxRecDepth 100000 in
theorem ck_3 : mC pg RR SHF mtL ct_2 en_3 [] [] 8 = true := by decide +kernel
theorem ok_3 (hl0 : l.1.stackTraces = false) : ∀ e ∈ ct_3, cOk l pg RR SHF e := List.forall_mem_cons.mpr ⟨meth_ok pg_ok mtL_ok hl0 (ok_2 hl0) ⟨by decide +kernel, by decide +kernel, by decide +kernel⟩ (by decide +kernel) ck_3, ok_2 hl0⟩
/-- FullHouse.count -/
def en_4 : cE := (86, [some (.inl (.ref 0)), some (.inr ((-2147483648), 2147483647))], [], ([], []), [(some (some (.inr ((-2147483648), 2147483647))), [])], ["java/util/NoSuchElementException"], 2, 12)
def ct_4 : List cE := en_4 :: ct_3
set_option maxRecDepth 100000 in
theorem ck_4 : mC pg RR SHF mtL ct_3 en_4 [] [] 12 = true := by decide +kernel
theorem ok_4 (hl0 : l.1.stackTraces = false) : ∀ e ∈ ct_4, cOk l pg RR SHF e := List.forall_mem_cons.mpr ⟨meth_ok pg_ok mtL_ok hl0 (ok_3 hl0) ⟨by decide +kernel, by decide +kernel, by decide +kernel⟩ (by decide +kernel) ck_4, ok_3 hl0⟩
/-- FullHouse.teaching -/
def en_5 : cE := (97, [some (.inl (.ref 0)), some (.inr ((-2147483648), 2147483647)), some (.inr ((-2147483648), 2147483647))], [], ([], []), [(some (some (.inr (0, 99))), [])], ["java/util/NoSuchElementException"], 2, 12)
def ct_5 : List cE := en_5 :: ct_4
set_option maxRecDepth 100000 in
theorem ck_5 : mC pg RR SHF mtL ct_4 en_5 [] [] 20 = true := by decide +kernel
theorem ok_5 (hl0 : l.1.stackTraces = false) : ∀ e ∈ ct_5, cOk l pg RR SHF e := List.forall_mem_cons.mpr ⟨meth_ok pg_ok mtL_ok hl0 (ok_4 hl0) ⟨by decide +kernel, by decide +kernel, by decide +kernel⟩ (by decide +kernel) ck_5, ok_4 hl0⟩
/-- FullHouse.tell -/
def en_6 : cE := (27, [some (.inl (.ref 0)), some (.inr ((-2147483648), 2147483647)), some (.inr ((-2147483648), 2147483647))], [], ([48, 57], []), [(some (some (.inr (0, 1))), [])], [], 2, 12)
def ct_6 : List cE := en_6 :: ct_5
set_option maxRecDepth 100000 in
theorem ck_6 : mC pg RR SHF mtL ct_5 en_6 [] [] 30 = true := by decide +kernel
theorem ok_6 (hl0 : l.1.stackTraces = false) : ∀ e ∈ ct_6, cOk l pg RR SHF e := List.forall_mem_cons.mpr ⟨meth_ok pg_ok mtL_ok hl0 (ok_5 hl0) ⟨by decide +kernel, by decide +kernel, by decide +kernel⟩ (by decide +kernel) ck_6, ok_5 hl0⟩
/-- House.whenAnyOneIsAway -/
def en_7 : cE := (31, [some (.inl (.ref 4))], [], ([], []), [(some (none), [])], [], 0, 0)
def ct_7 : List cE := en_7 :: ct_6
set_option maxRecDepth 100000 in
theorem ck_7 : mC pg RR SHF mtL ct_6 en_7 [(4, [(0, some (.inl (.ref 4))), (1, none), (3, some (.inr (0, 6)))], [], 6, [(-1)])] [(0, 3, 0)] 22 = true := by decide +kernel
theorem ok_7 (hl0 : l.1.stackTraces = false) : ∀ e ∈ ct_7, cOk l pg RR SHF e := List.forall_mem_cons.mpr ⟨meth_ok pg_ok mtL_ok hl0 (ok_6 hl0) ⟨by decide +kernel, by decide +kernel, by decide +kernel⟩ (by decide +kernel) ck_7, ok_6 hl0⟩
/-- House.whenAnyTwoAreAway -/
def en_8 : cE := (127, [some (.inl (.ref 4))], [], ([], []), [(some (none), [])], [], 0, 0)
def ct_8 : List cE := en_8 :: ct_7
set_option maxRecDepth 100000 in
theorem ck_8 : mC pg RR SHF mtL ct_7 en_8 [(17, [(0, some (.inl (.ref 4))), (1, none), (3, some (.inr (0, 6)))], [], 48, [(-7), 0]), (30, [(0, some (.inl (.ref 4))), (1, none), (3, some (.inr (0, 5))), (4, some (.inr (1, 6)))], [], 48, [(-7), (-1)])] [(0, 3, 0), (0, 4, 0)] 26 = true := by decide +kernel
theorem ok_8 (hl0 : l.1.stackTraces = false) : ∀ e ∈ ct_8, cOk l pg RR SHF e := List.forall_mem_cons.mpr ⟨meth_ok pg_ok mtL_ok hl0 (ok_7 hl0) ⟨by decide +kernel, by decide +kernel, by decide +kernel⟩ (by decide +kernel) ck_8, ok_7 hl0⟩
/-- Lefts.missedCouples -/
def en_9 : cE := (126, [some (.inl (.ref 33)), some (.inl (.ref 4))], [], ([], []), [(some (some (.inr ((-2147483648), 2147483647))), [])], [], 0, 0)
def ct_9 : List cE := en_9 :: ct_8
set_option maxRecDepth 100000 in
theorem ck_9 : mC pg RR SHF mtL ct_8 en_9 [(4, [(0, some (.inl (.ref 33))), (1, some (.inl (.ref 4))), (2, some (.inr ((-2147483648), 2147483647))), (3, some (.inr (0, 6)))], [], 48, [(-7), 0]), (17, [(0, some (.inl (.ref 33))), (1, some (.inl (.ref 4))), (2, some (.inr ((-2147483648), 2147483647))), (3, some (.inr (0, 5))), (4, some (.inr (1, 6)))], [], 48, [(-7), (-1)])] [(0, 3, 0), (0, 4, 0)] 39 = true := by decide +kernel
theorem ok_9 (hl0 : l.1.stackTraces = false) : ∀ e ∈ ct_9, cOk l pg RR SHF e := List.forall_mem_cons.mpr ⟨meth_ok pg_ok mtL_ok hl0 (ok_8 hl0) ⟨by decide +kernel, by decide +kernel, by decide +kernel⟩ (by decide +kernel) ck_9, ok_8 hl0⟩
/-- Lefts.missedPeople -/
def en_10 : cE := (125, [some (.inl (.ref 33)), some (.inl (.ref 4))], [], ([], []), [(some (some (.inr (0, 63))), [])], [], 0, 0)
def ct_10 : List cE := en_10 :: ct_9
set_option maxRecDepth 100000 in
theorem ck_10 : mC pg RR SHF mtL ct_9 en_10 [(4, [(0, some (.inl (.ref 33))), (1, some (.inl (.ref 4))), (2, some (.inr (0, 63))), (3, some (.inr (0, 6)))], [], 6, [(-1)])] [(0, 3, 0)] 33 = true := by decide +kernel
theorem ok_10 (hl0 : l.1.stackTraces = false) : ∀ e ∈ ct_10, cOk l pg RR SHF e := List.forall_mem_cons.mpr ⟨meth_ok pg_ok mtL_ok hl0 (ok_9 hl0) ⟨by decide +kernel, by decide +kernel, by decide +kernel⟩ (by decide +kernel) ck_10, ok_9 hl0⟩
/-- FullHouse.any -/
def en_11 : cE := (124, [some (.inl (.ref 0)), some (.inr ((-2147483648), 2147483647))], [], ([], []), [(some (some (.inr ((-2147483648), 2147483647))), [])], ["java/util/NoSuchElementException"], 2, 12)
def ct_11 : List cE := en_11 :: ct_10
set_option maxRecDepth 100000 in
theorem ck_11 : mC pg RR SHF mtL ct_10 en_11 [] [] 28 = true := by decide +kernel
theorem ok_11 (hl0 : l.1.stackTraces = false) : ∀ e ∈ ct_11, cOk l pg RR SHF e := List.forall_mem_cons.mpr ⟨meth_ok pg_ok mtL_ok hl0 (ok_10 hl0) ⟨by decide +kernel, by decide +kernel, by decide +kernel⟩ (by decide +kernel) ck_11, ok_10 hl0⟩
/-- Arrays.fill -/
def en_12 : cE := (17, [some (.inl (.ref 37)), none], [], ([], []), [(none, [])], [], 0, 0)
def ct_12 : List cE := en_12 :: ct_11
set_option maxRecDepth 100000 in
theorem ck_12 : mC pg RR SHF mtL ct_11 en_12 [(6, [(0, some (.inl (.ref 37))), (1, none), (3, some (.inr (0, 256))), (4, some (.inr (256, 256)))], [], 256, [(-1)])] [(0, 3, 0)] 14 = true := by decide +kernel
theorem ok_12 (hl0 : l.1.stackTraces = false) : ∀ e ∈ ct_12, cOk l pg RR SHF e := List.forall_mem_cons.mpr ⟨meth_ok pg_ok mtL_ok hl0 (ok_11 hl0) ⟨by decide +kernel, by decide +kernel, by decide +kernel⟩ (by decide +kernel) ck_12, ok_11 hl0⟩
end CT
