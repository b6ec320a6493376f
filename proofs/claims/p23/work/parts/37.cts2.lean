section CT
variable {l : aL}
/-- Learning.bound -/
def en_61 : cE := (136, [some (.inl (.ref 40)), some (.inl (.ref 4)), some (.inr (2, 2))], [], ([], []), [(some (some (.inr ((-2147483648), 2147483647))), [])], [], 0, 0)
def ct_61 : List cE := en_61 :: ct_60
set_option maxRecDepth 100000 in
theorem ck_61 : mC pg RR SHF mtL ct_60 en_61 [(5, [(0, some (.inl (.ref 40))), (1, some (.inl (.ref 4))), (2, some (.inr (2, 2))), (3, some (.inr ((-2147483648), 2147483647))), (4, some (.inr (0, 8)))], [], 35, [(-4), 0], []), (34, [(0, some (.inl (.ref 40))), (1, some (.inl (.ref 4))), (2, some (.inr (2, 2))), (3, some (.inr ((-2147483648), 2147483647))), (4, some (.inr (0, 7))), (5, some (.inr ((-6), 2))), (6, some (.inr (0, 255))), (7, some (.inr (0, 2)))], [], 34, [(-4), (-1)], [])] [(0, 4, 0), (0, 7, 0)] 31 = true := by decide +kernel
theorem ok_61 (hl0 : l.1.stackTraces = false) (hA : ∀ e ∈ ctA, cOk l pg RR SHF e) : ∀ e ∈ ct_61, cOk l pg RR SHF e := List.forall_mem_cons.mpr ⟨meth_ok pg_ok mtL_ok hl0 (ok_60 hl0 hA) ⟨by decide +kernel, by decide +kernel, by decide +kernel⟩ (by decide +kernel) ck_61, (ok_60 hl0 hA)⟩
/-- Arrays.fill -/
def en_62 : cE := (17, [some (.inl (.ref 42)), none], [], ([], []), [(none, [])], [], 0, 0)
def ct_62 : List cE := en_62 :: ct_61
set_option maxRecDepth 100000 in
theorem ck_62 : mC pg RR SHF mtL ct_61 en_62 [(6, [(0, some (.inl (.ref 42))), (1, none), (3, some (.inr (0, 256))), (4, some (.inr (256, 256)))], [], 256, [(-1)], [])] [(0, 3, 0)] 14 = true := by decide +kernel
theorem ok_62 (hl0 : l.1.stackTraces = false) (hA : ∀ e ∈ ctA, cOk l pg RR SHF e) : ∀ e ∈ ct_62, cOk l pg RR SHF e := List.forall_mem_cons.mpr ⟨meth_ok pg_ok mtL_ok hl0 (ok_61 hl0 hA) ⟨by decide +kernel, by decide +kernel, by decide +kernel⟩ (by decide +kernel) ck_62, (ok_61 hl0 hA)⟩
/-- Lefts.withHelp -/
def en_63 : cE := (19, [some (.inl (.ref 41)), some (.inl (.ref 30)), some (.inr (0, 255)), some (.inr (0, 255)), some (.inr (0, 24))], [], ([], []), [(some (none), [])], [], 0, 0)
def ct_63 : List cE := en_63 :: ct_62
set_option maxRecDepth 100000 in
theorem ck_63 : mC pg RR SHF mtL ct_62 en_63 [(17, [(0, some (.inl (.ref 41))), (1, some (.inl (.ref 30))), (2, some (.inr (0, 255))), (3, some (.inr (0, 255))), (4, some (.inr (0, 24))), (5, some (.inr (0, 255))), (6, none), (8, some (.inr (0, 255)))], [], 0, [1], [])] [(0, 8, 0)] 29 = true := by decide +kernel
theorem ok_63 (hl0 : l.1.stackTraces = false) (hA : ∀ e ∈ ctA, cOk l pg RR SHF e) : ∀ e ∈ ct_63, cOk l pg RR SHF e := List.forall_mem_cons.mpr ⟨meth_ok pg_ok mtL_ok hl0 (ok_62 hl0 hA) ⟨by decide +kernel, by decide +kernel, by decide +kernel⟩ (by decide +kernel) ck_63, (ok_62 hl0 hA)⟩
/-- Lefts.fill -/
def en_64 : cE := (16, [some (.inl (.ref 41)), some (.inl (.ref 4)), some (.inl (.ref 30)), some (.inl (.ref 44))], [], ([], []), [(none, [])], [], 0, 0)
def ct_64 : List cE := en_64 :: ct_63
set_option maxRecDepth 100000 in
theorem ck_64 : mC pg RR SHF mtL ct_63 en_64 [(18, [(0, some (.inl (.ref 41))), (1, some (.inl (.ref 4))), (2, some (.inl (.ref 30))), (3, some (.inl (.ref 44))), (4, some (.inr (0, 6)))], [], 1805, [(-258), 0], []), (33, [(0, some (.inl (.ref 41))), (1, some (.inl (.ref 4))), (2, some (.inl (.ref 30))), (3, some (.inl (.ref 44))), (4, some (.inr (0, 5))), (5, some (.inr ((-1), 255)))], [], 1549, [(-258), 1], [])] [(0, 4, 0), (0, 5, 0)] 33 = true := by decide +kernel
theorem ok_64 (hl0 : l.1.stackTraces = false) (hA : ∀ e ∈ ctA, cOk l pg RR SHF e) : ∀ e ∈ ct_64, cOk l pg RR SHF e := List.forall_mem_cons.mpr ⟨meth_ok pg_ok mtL_ok hl0 (ok_63 hl0 hA) ⟨by decide +kernel, by decide +kernel, by decide +kernel⟩ (by decide +kernel) ck_64, (ok_63 hl0 hA)⟩
/-- Learning.holdsWith -/
def en_65 : cE := (134, [some (.inl (.ref 40)), some (.inl (.ref 4)), some (.inl (.ref 30)), some (.inr (0, 255)), none], [], ([44], []), [(some (some (.inr (0, 1))), [])], [], 0, 0)
def ct_65 : List cE := en_65 :: ct_64
set_option maxRecDepth 100000 in
theorem ck_65 : mC pg RR SHF mtL ct_64 en_65 [(18, [(0, some (.inl (.ref 40))), (1, some (.inl (.ref 4))), (2, some (.inl (.ref 30))), (3, some (.inr (0, 255))), (4, none), (6, some (.inr (0, 8)))], [], 8, [(-1)], [])] [(0, 6, 0)] 39 = true := by decide +kernel
theorem ok_65 (hl0 : l.1.stackTraces = false) (hA : ∀ e ∈ ctA, cOk l pg RR SHF e) : ∀ e ∈ ct_65, cOk l pg RR SHF e := List.forall_mem_cons.mpr ⟨meth_ok pg_ok mtL_ok hl0 (ok_64 hl0 hA) ⟨by decide +kernel, by decide +kernel, by decide +kernel⟩ (by decide +kernel) ck_65, (ok_64 hl0 hA)⟩
/-- House.painsOf -/
def en_66 : cE := (135, [some (.inl (.ref 4)), some (.inr (0, 255))], [], ([], []), [(some (some (.inr ((-2147483648), 2147483647))), [])], [], 0, 0)
def ct_66 : List cE := en_66 :: ct_65
set_option maxRecDepth 100000 in
theorem ck_66 : mC pg RR SHF mtL ct_65 en_66 [(4, [(0, some (.inl (.ref 4))), (1, some (.inr (0, 255))), (2, some (.inr ((-2147483648), 2147483647))), (3, some (.inr (0, 8)))], [], 8, [(-1)], [])] [(0, 3, 0)] 24 = true := by decide +kernel
theorem ok_66 (hl0 : l.1.stackTraces = false) (hA : ∀ e ∈ ctA, cOk l pg RR SHF e) : ∀ e ∈ ct_66, cOk l pg RR SHF e := List.forall_mem_cons.mpr ⟨meth_ok pg_ok mtL_ok hl0 (ok_65 hl0 hA) ⟨by decide +kernel, by decide +kernel, by decide +kernel⟩ (by decide +kernel) ck_66, (ok_65 hl0 hA)⟩
/-- Learning.seek -/
def en_67 : cE := (132, [some (.inl (.ref 40)), some (.inl (.ref 4)), some (.inl (.ref 30)), none], [], ([44], []), [(some (some (.inr ((-1), 255))), [])], [], 0, 0)
def ct_67 : List cE := en_67 :: ct_66
set_option maxRecDepth 100000 in
theorem ck_67 : mC pg RR SHF mtL ct_66 en_67 [(26, [(0, some (.inl (.ref 40))), (1, some (.inl (.ref 4))), (2, some (.inl (.ref 30))), (3, none), (5, some (.inr (0, 255))), (6, some (.inr (0, 255))), (7, some (.inr (0, 8)))], [], 265, [(-1), 0], []), (78, [(0, some (.inl (.ref 40))), (1, some (.inl (.ref 4))), (2, some (.inl (.ref 30))), (3, none), (5, some (.inr (0, 255))), (6, some (.inr (0, 255))), (7, some (.inr (0, 255))), (8, some (.inr ((-2147483648), 2147483647))), (9, some (.inr (0, 256)))], [], 256, [0, (-1)], [])] [(0, 7, 0), (0, 9, 0)] 34 = true := by decide +kernel
theorem ok_67 (hl0 : l.1.stackTraces = false) (hA : ∀ e ∈ ctA, cOk l pg RR SHF e) : ∀ e ∈ ct_67, cOk l pg RR SHF e := List.forall_mem_cons.mpr ⟨meth_ok pg_ok mtL_ok hl0 (ok_66 hl0 hA) ⟨by decide +kernel, by decide +kernel, by decide +kernel⟩ (by decide +kernel) ck_67, (ok_66 hl0 hA)⟩
/-- House.painsOf -/
def en_68 : cE := (135, [some (.inl (.ref 4)), some (.inr ((-2147483648), 2147483647))], [], ([], []), [(some (some (.inr ((-2147483648), 2147483647))), [])], [], 0, 0)
def ct_68 : List cE := en_68 :: ct_67
set_option maxRecDepth 100000 in
theorem ck_68 : mC pg RR SHF mtL ct_67 en_68 [(4, [(0, some (.inl (.ref 4))), (1, some (.inr ((-2147483648), 2147483647))), (2, some (.inr ((-2147483648), 2147483647))), (3, some (.inr (0, 8)))], [], 8, [(-1)], [])] [(0, 3, 0)] 24 = true := by decide +kernel
theorem ok_68 (hl0 : l.1.stackTraces = false) (hA : ∀ e ∈ ctA, cOk l pg RR SHF e) : ∀ e ∈ ct_68, cOk l pg RR SHF e := List.forall_mem_cons.mpr ⟨meth_ok pg_ok mtL_ok hl0 (ok_67 hl0 hA) ⟨by decide +kernel, by decide +kernel, by decide +kernel⟩ (by decide +kernel) ck_68, (ok_67 hl0 hA)⟩
/-- FullHouse.learn -/
def en_69 : cE := (129, [some (.inl (.ref 0)), some (.inr (0, 1)), some (.inr ((-2147483648), 2147483647))], [], ([44], [(40, 2), (40, 3)]), [(some (some (.inr ((-2147483648), 2147483647))), [])], ["java/util/NoSuchElementException"], 2, 12)
def ct_69 : List cE := en_69 :: ct_68
set_option maxRecDepth 100000 in
theorem ck_69 : mC pg RR SHF mtL ct_68 en_69 [] [] 37 = true := by decide +kernel
theorem ok_69 (hl0 : l.1.stackTraces = false) (hA : ∀ e ∈ ctA, cOk l pg RR SHF e) : ∀ e ∈ ct_69, cOk l pg RR SHF e := List.forall_mem_cons.mpr ⟨meth_ok pg_ok mtL_ok hl0 (ok_68 hl0 hA) ⟨by decide +kernel, by decide +kernel, by decide +kernel⟩ (by decide +kernel) ck_69, (ok_68 hl0 hA)⟩
/-- Arrays.fill -/
def en_70 : cE := (12, [some (.inl (.ref 48)), some (.inr ((-1), (-1)))], [], ([48], []), [(none, [])], [], 0, 0)
def ct_70 : List cE := en_70 :: ct_69
set_option maxRecDepth 100000 in
theorem ck_70 : mC pg RR SHF mtL ct_69 en_70 [(5, [(0, some (.inl (.ref 48))), (1, some (.inr ((-1), (-1)))), (2, some (.inr (0, 8))), (3, some (.inr (8, 8)))], [], 8, [(-1)], [])] [(0, 2, 0)] 14 = true := by decide +kernel
theorem ok_70 (hl0 : l.1.stackTraces = false) (hA : ∀ e ∈ ctA, cOk l pg RR SHF e) : ∀ e ∈ ct_70, cOk l pg RR SHF e := List.forall_mem_cons.mpr ⟨meth_ok pg_ok mtL_ok hl0 (ok_69 hl0 hA) ⟨by decide +kernel, by decide +kernel, by decide +kernel⟩ (by decide +kernel) ck_70, (ok_69 hl0 hA)⟩
/-- Spans.measure -/
def en_71 : cE := (14, [some (.inl (.ref 30)), some (.inl (.ref 4))], [], ([31, 32], []), [(none, [])], [], 0, 0)
def ct_71 : List cE := en_71 :: ct_70
set_option maxRecDepth 100000 in
theorem ck_71 : mC pg RR SHF mtL ct_70 en_71 [(16, [(0, some (.inl (.ref 30))), (1, some (.inl (.ref 4))), (2, some (.inr (0, 8)))], [], 1169, [(-130), 0], []), (38, [(0, some (.inl (.ref 30))), (1, some (.inl (.ref 4))), (2, some (.inr (0, 7))), (3, some (.inr (0, 2139095040))), (4, some (.inr (1, 128))), (5, some (.inr (0, 128)))], [], 1168, [(-130), (-1)], [])] [(0, 2, 0), (0, 5, 0)] 54 = true := by decide +kernel
theorem ok_71 (hl0 : l.1.stackTraces = false) (hA : ∀ e ∈ ctA, cOk l pg RR SHF e) : ∀ e ∈ ct_71, cOk l pg RR SHF e := List.forall_mem_cons.mpr ⟨meth_ok pg_ok mtL_ok hl0 (ok_70 hl0 hA) ⟨by decide +kernel, by decide +kernel, by decide +kernel⟩ (by decide +kernel) ck_71, (ok_70 hl0 hA)⟩
/-- Arrays.fill -/
def en_72 : cE := (17, [some (.inl (.ref 34)), none], [], ([], []), [(none, [])], [], 0, 0)
def ct_72 : List cE := en_72 :: ct_71
set_option maxRecDepth 100000 in
theorem ck_72 : mC pg RR SHF mtL ct_71 en_72 [(6, [(0, some (.inl (.ref 34))), (1, none), (3, some (.inr (0, 256))), (4, some (.inr (256, 256)))], [], 256, [(-1)], [])] [(0, 3, 0)] 14 = true := by decide +kernel
theorem ok_72 (hl0 : l.1.stackTraces = false) (hA : ∀ e ∈ ctA, cOk l pg RR SHF e) : ∀ e ∈ ct_72, cOk l pg RR SHF e := List.forall_mem_cons.mpr ⟨meth_ok pg_ok mtL_ok hl0 (ok_71 hl0 hA) ⟨by decide +kernel, by decide +kernel, by decide +kernel⟩ (by decide +kernel) ck_72, (ok_71 hl0 hA)⟩
/-- Lefts.withHelp -/
def en_73 : cE := (19, [some (.inl (.ref 33)), some (.inl (.ref 30)), some (.inr (0, 255)), some (.inr (0, 255)), some (.inr (0, 24))], [], ([], []), [(some (none), [])], [], 0, 0)
def ct_73 : List cE := en_73 :: ct_72
set_option maxRecDepth 100000 in
theorem ck_73 : mC pg RR SHF mtL ct_72 en_73 [(17, [(0, some (.inl (.ref 33))), (1, some (.inl (.ref 30))), (2, some (.inr (0, 255))), (3, some (.inr (0, 255))), (4, some (.inr (0, 24))), (5, some (.inr (0, 255))), (6, none), (8, some (.inr (0, 255)))], [], 0, [1], [])] [(0, 8, 0)] 29 = true := by decide +kernel
theorem ok_73 (hl0 : l.1.stackTraces = false) (hA : ∀ e ∈ ctA, cOk l pg RR SHF e) : ∀ e ∈ ct_73, cOk l pg RR SHF e := List.forall_mem_cons.mpr ⟨meth_ok pg_ok mtL_ok hl0 (ok_72 hl0 hA) ⟨by decide +kernel, by decide +kernel, by decide +kernel⟩ (by decide +kernel) ck_73, (ok_72 hl0 hA)⟩
/-- Lefts.fill -/
def en_74 : cE := (16, [some (.inl (.ref 33)), some (.inl (.ref 4)), some (.inl (.ref 30)), some (.inl (.ref 7))], [], ([], []), [(none, [])], [], 0, 0)
def ct_74 : List cE := en_74 :: ct_73
set_option maxRecDepth 100000 in
theorem ck_74 : mC pg RR SHF mtL ct_73 en_74 [(18, [(0, some (.inl (.ref 33))), (1, some (.inl (.ref 4))), (2, some (.inl (.ref 30))), (3, some (.inl (.ref 7))), (4, some (.inr (0, 6)))], [], 1805, [(-258), 0], []), (33, [(0, some (.inl (.ref 33))), (1, some (.inl (.ref 4))), (2, some (.inl (.ref 30))), (3, some (.inl (.ref 7))), (4, some (.inr (0, 5))), (5, some (.inr ((-1), 255)))], [], 1549, [(-258), 1], [])] [(0, 4, 0), (0, 5, 0)] 33 = true := by decide +kernel
theorem ok_74 (hl0 : l.1.stackTraces = false) (hA : ∀ e ∈ ctA, cOk l pg RR SHF e) : ∀ e ∈ ct_74, cOk l pg RR SHF e := List.forall_mem_cons.mpr ⟨meth_ok pg_ok mtL_ok hl0 (ok_73 hl0 hA) ⟨by decide +kernel, by decide +kernel, by decide +kernel⟩ (by decide +kernel) ck_74, (ok_73 hl0 hA)⟩
/-- Arrays.fill -/
def en_75 : cE := (17, [some (.inl (.ref 35)), none], [], ([], []), [(none, [])], [], 0, 0)
def ct_75 : List cE := en_75 :: ct_74
set_option maxRecDepth 100000 in
theorem ck_75 : mC pg RR SHF mtL ct_74 en_75 [(6, [(0, some (.inl (.ref 35))), (1, none), (3, some (.inr (0, 9))), (4, some (.inr (9, 9)))], [], 9, [(-1)], [])] [(0, 3, 0)] 14 = true := by decide +kernel
theorem ok_75 (hl0 : l.1.stackTraces = false) (hA : ∀ e ∈ ctA, cOk l pg RR SHF e) : ∀ e ∈ ct_75, cOk l pg RR SHF e := List.forall_mem_cons.mpr ⟨meth_ok pg_ok mtL_ok hl0 (ok_74 hl0 hA) ⟨by decide +kernel, by decide +kernel, by decide +kernel⟩ (by decide +kernel) ck_75, (ok_74 hl0 hA)⟩
/-- Lefts.sortByNumber -/
def en_76 : cE := (20, [some (.inl (.ref 33)), some (.inl (.ref 4))], [], ([], []), [(none, [])], [], 0, 0)
def ct_76 : List cE := en_76 :: ct_75
set_option maxRecDepth 100000 in
theorem ck_76 : mC pg RR SHF mtL ct_75 en_76 [(10, [(0, some (.inl (.ref 33))), (1, some (.inl (.ref 4))), (2, some (.inr (0, 256)))], [], 256, [(-1)], [])] [(0, 2, 0)] 23 = true := by decide +kernel
theorem ok_76 (hl0 : l.1.stackTraces = false) (hA : ∀ e ∈ ctA, cOk l pg RR SHF e) : ∀ e ∈ ct_76, cOk l pg RR SHF e := List.forall_mem_cons.mpr ⟨meth_ok pg_ok mtL_ok hl0 (ok_75 hl0 hA) ⟨by decide +kernel, by decide +kernel, by decide +kernel⟩ (by decide +kernel) ck_76, (ok_75 hl0 hA)⟩
/-- FullHouse.settle -/
def en_77 : cE := (11, [some (.inl (.ref 0))], [], ([31, 32, 48], [(0, 9), (40, 2), (40, 3), (45, 2), (49, 0), (49, 1), (53, 0), (53, 1)]), [(none, [])], [], 0, 0)
def ct_77 : List cE := en_77 :: ct_76
set_option maxRecDepth 100000 in
theorem ck_77 : mC pg RR SHF mtL ct_76 en_77 [] [] 48 = true := by decide +kernel
theorem ok_77 (hl0 : l.1.stackTraces = false) (hA : ∀ e ∈ ctA, cOk l pg RR SHF e) : ∀ e ∈ ct_77, cOk l pg RR SHF e := List.forall_mem_cons.mpr ⟨meth_ok pg_ok mtL_ok hl0 (ok_76 hl0 hA) ⟨by decide +kernel, by decide +kernel, by decide +kernel⟩ (by decide +kernel) ck_77, (ok_76 hl0 hA)⟩
/-- FullHouseModel.steps -/
def en_78 : cE := (176, [some (.inl (.ref 58))], [(58, 17, (0, 800))], ([], [(58, 17), (58, 18), (58, 19), (58, 20), (58, 21)]), [(none, [(58, 18, (0, 0), none), (58, 17, (0, 800), some (0, 800))]), (none, [(58, 18, (1, 4), none), (58, 17, (0, 800), some (1, 800))])], [], 0, 0)
def ct_78 : List cE := en_78 :: ct_77
set_option maxRecDepth 100000 in
theorem ck_78 : mC pg RR SHF mtL ct_77 en_78 [(0, [(0, some (.inl (.ref 58)))], [(58, 16, (1, 800), none), (58, 17, (1, 800), some (1, 800)), (58, 19, (0, 800), none), (58, 21, (0, 9999), none)], 2400, [(-1)], []), (164, [(0, some (.inl (.ref 58))), (1, some (.inr (97, 122)))], [(58, 16, (1, 800), none), (58, 17, (1, 800), some (1, 800)), (58, 19, (0, 799), none), (58, 21, (0, 0), none)], 1600, [(-1)], []), (242, [(0, some (.inl (.ref 58))), (1, some (.inr (48, 57)))], [(58, 16, (1, 800), none), (58, 17, (1, 800), some (1, 800)), (58, 19, (0, 799), none), (58, 21, (0, 9), none)], 800, [(-1)], [((1, 58, 17), (1, 58, 19), 1, 1)]), (242, [(0, some (.inl (.ref 58))), (1, some (.inr (48, 57)))], [(58, 16, (2, 800), none), (58, 17, (2, 800), some (2, 800)), (58, 19, (0, 798), none), (58, 21, (0, 99), none)], 800, [(-1)], [((1, 58, 17), (1, 58, 19), 2, 2)]), (242, [(0, some (.inl (.ref 58))), (1, some (.inr (48, 57)))], [(58, 16, (3, 800), none), (58, 17, (3, 800), some (3, 800)), (58, 19, (0, 797), none), (58, 21, (0, 999), none)], 800, [(-1)], [((1, 58, 17), (1, 58, 19), 3, 3)]), (242, [(0, some (.inl (.ref 58))), (1, some (.inr (48, 57)))], [(58, 16, (4, 800), none), (58, 17, (4, 800), some (4, 800)), (58, 19, (0, 796), none), (58, 21, (0, 9999), none)], 800, [(-1)], [((1, 58, 17), (1, 58, 19), 4, 800)])] [(1, 58, 17)] 80 = true := by decide +kernel
theorem ok_78 (hl0 : l.1.stackTraces = false) (hA : ∀ e ∈ ctA, cOk l pg RR SHF e) : ∀ e ∈ ct_78, cOk l pg RR SHF e := List.forall_mem_cons.mpr ⟨meth_ok pg_ok mtL_ok hl0 (ok_77 hl0 hA) ⟨by decide +kernel, by decide +kernel, by decide +kernel⟩ (by decide +kernel) ck_78, (ok_77 hl0 hA)⟩
/-- FullHouseModel.readsPerson -/
def en_79 : cE := (184, [some (.inl (.ref 58))], [(58, 17, (0, 800)), (58, 13, (0, 5))], ([67, 68, 71], [(58, 13), (58, 14), (58, 17), (58, 18), (58, 19), (58, 20), (58, 21), (58, 23), (58, 27)]), [(none, [(58, 13, (1, 5), none), (58, 17, (0, 800), some (0, 800))]), (none, [(58, 13, (0, 0), none), (58, 17, (0, 800), some (1, 800))])], [], 0, 0)
def ct_79 : List cE := en_79 :: ct_78
set_option maxRecDepth 100000 in
theorem ck_79 : mC pg RR SHF mtL ct_78 en_79 [(154, [(0, some (.inl (.ref 58))), (1, some (.inr (0, 8)))], [(58, 13, (0, 0), none), (58, 17, (1, 800), some (1, 800)), (58, 23, (0, 5), none)], 8, [(-1)], []), (154, [(0, some (.inl (.ref 58))), (1, some (.inr (0, 8)))], [(58, 13, (1, 5), none), (58, 17, (0, 800), some (0, 800)), (58, 23, (0, 5), none)], 8, [(-1)], [])] [(0, 1, 0)] 99 = true := by decide +kernel
theorem ok_79 (hl0 : l.1.stackTraces = false) (hA : ∀ e ∈ ctA, cOk l pg RR SHF e) : ∀ e ∈ ct_79, cOk l pg RR SHF e := List.forall_mem_cons.mpr ⟨meth_ok pg_ok mtL_ok hl0 (ok_78 hl0 hA) ⟨by decide +kernel, by decide +kernel, by decide +kernel⟩ (by decide +kernel) ck_79, (ok_78 hl0 hA)⟩
/-- FullHouseModel.readsWork -/
def en_80 : cE := (187, [some (.inl (.ref 58))], [(58, 17, (0, 800)), (58, 13, (0, 5))], ([69, 70, 71], [(58, 13), (58, 14), (58, 17), (58, 18), (58, 19), (58, 20), (58, 21), (58, 24)]), [(none, [(58, 13, (1, 5), none), (58, 17, (0, 800), some (0, 800))]), (none, [(58, 13, (0, 0), none), (58, 17, (0, 800), some (1, 800))])], [], 0, 0)
def ct_80 : List cE := en_80 :: ct_79
set_option maxRecDepth 100000 in
theorem ck_80 : mC pg RR SHF mtL ct_79 en_80 [(92, [(0, some (.inl (.ref 58))), (1, some (.inr (0, 6)))], [(58, 13, (0, 0), none), (58, 17, (2, 800), some (2, 800)), (58, 24, (0, 7), none)], 6, [(-1)], []), (92, [(0, some (.inl (.ref 58))), (1, some (.inr (0, 6)))], [(58, 13, (1, 2), none), (58, 17, (0, 800), some (0, 800)), (58, 24, (0, 7), none)], 6, [(-1)], [])] [(0, 1, 0)] 80 = true := by decide +kernel
theorem ok_80 (hl0 : l.1.stackTraces = false) (hA : ∀ e ∈ ctA, cOk l pg RR SHF e) : ∀ e ∈ ct_80, cOk l pg RR SHF e := List.forall_mem_cons.mpr ⟨meth_ok pg_ok mtL_ok hl0 (ok_79 hl0 hA) ⟨by decide +kernel, by decide +kernel, by decide +kernel⟩ (by decide +kernel) ck_80, (ok_79 hl0 hA)⟩
/-- FullHouseModel.readsCouple -/
def en_81 : cE := (188, [some (.inl (.ref 58))], [(58, 17, (0, 800)), (58, 13, (0, 5))], ([], [(58, 13), (58, 14), (58, 17), (58, 18), (58, 19), (58, 20), (58, 21), (58, 35), (58, 36)]), [(none, [(58, 13, (1, 5), none), (58, 17, (0, 800), some (0, 800))]), (none, [(58, 13, (0, 0), none), (58, 17, (0, 800), some (1, 800)), (58, 35, (0, 5), none), (58, 36, (0, 7), none)])], [], 0, 0)
def ct_81 : List cE := en_81 :: ct_80
set_option maxRecDepth 100000 in
theorem ck_81 : mC pg RR SHF mtL ct_80 en_81 [(77, [(0, some (.inl (.ref 58))), (1, some (.inr (0, 1))), (2, some (.inr (0, 8)))], [(58, 13, (0, 0), none), (58, 17, (2, 800), some (2, 800)), (58, 35, (0, 5), none), (58, 21, (0, 7), none)], 8, [(-1)], [])] [(0, 2, 0)] 55 = true := by decide +kernel
theorem ok_81 (hl0 : l.1.stackTraces = false) (hA : ∀ e ∈ ctA, cOk l pg RR SHF e) : ∀ e ∈ ct_81, cOk l pg RR SHF e := List.forall_mem_cons.mpr ⟨meth_ok pg_ok mtL_ok hl0 (ok_80 hl0 hA) ⟨by decide +kernel, by decide +kernel, by decide +kernel⟩ (by decide +kernel) ck_81, (ok_80 hl0 hA)⟩
/-- FullHouseModel.line -/
def en_82 : cE := (181, [some (.inl (.ref 58))], [(58, 17, (0, 800)), (58, 13, (0, 5))], ([67, 68, 69, 70, 71, 72], [(58, 13), (58, 14), (58, 17), (58, 18), (58, 19), (58, 20), (58, 21), (58, 23), (58, 24), (58, 25), (58, 26), (58, 27), (58, 28), (58, 35), (58, 36)]), [(none, [(58, 13, (1, 5), none), (58, 17, (0, 800), some (0, 800))]), (none, [(58, 13, (0, 0), none), (58, 17, (0, 800), some (1, 800))])], [], 0, 0)
def ct_82 : List cE := en_82 :: ct_81
set_option maxRecDepth 100000 in
theorem ck_82 : mC pg RR SHF mtL ct_81 en_82 [] [] 110 = true := by decide +kernel
theorem ok_82 (hl0 : l.1.stackTraces = false) (hA : ∀ e ∈ ctA, cOk l pg RR SHF e) : ∀ e ∈ ct_82, cOk l pg RR SHF e := List.forall_mem_cons.mpr ⟨meth_ok pg_ok mtL_ok hl0 (ok_81 hl0 hA) ⟨by decide +kernel, by decide +kernel, by decide +kernel⟩ (by decide +kernel) ck_82, (ok_81 hl0 hA)⟩
/-- FullHouseModel.lays -/
def en_83 : cE := (173, [some (.inl (.ref 58)), some (.inr ((-2147483648), 2147483647))], [(58, 12, (0, 796))], ([65], [(58, 12)]), [(none, [(58, 12, (4, 800), some (4, 4))])], [], 0, 0)
def ct_83 : List cE := en_83 :: ct_82
set_option maxRecDepth 100000 in
theorem ck_83 : mC pg RR SHF mtL ct_82 en_83 [] [] 90 = true := by decide +kernel
theorem ok_83 (hl0 : l.1.stackTraces = false) (hA : ∀ e ∈ ctA, cOk l pg RR SHF e) : ∀ e ∈ ct_83, cOk l pg RR SHF e := List.forall_mem_cons.mpr ⟨meth_ok pg_ok mtL_ok hl0 (ok_82 hl0 hA) ⟨by decide +kernel, by decide +kernel, by decide +kernel⟩ (by decide +kernel) ck_83, (ok_82 hl0 hA)⟩
/-- FullHouseModel.feed -/
def en_84 : cE := (172, [some (.inl (.ref 58)), some (.inr ((-2147483648), 2147483647)), some (.inr ((-2147483648), 2147483647)), some (.inr ((-2147483648), 2147483647)), some (.inr ((-2147483648), 2147483647)), some (.inr ((-2147483648), 2147483647))], [], ([65], [(58, 0), (58, 12)]), [(some (some (.inr ((-1), 800))), [])], [], 0, 0)
def ct_84 : List cE := en_84 :: ct_83
set_option maxRecDepth 100000 in
theorem ck_84 : mC pg RR SHF mtL ct_83 en_84 [] [] 32 = true := by decide +kernel
theorem ok_84 (hl0 : l.1.stackTraces = false) (hA : ∀ e ∈ ctA, cOk l pg RR SHF e) : ∀ e ∈ ct_84, cOk l pg RR SHF e := List.forall_mem_cons.mpr ⟨meth_ok pg_ok mtL_ok hl0 (ok_83 hl0 hA) ⟨by decide +kernel, by decide +kernel, by decide +kernel⟩ (by decide +kernel) ck_84, (ok_83 hl0 hA)⟩
/-- FullHouseModel.fault -/
def en_85 : cE := (193, [some (.inl (.ref 58))], [], ([], [(58, 0)]), [(some (some (.inr ((-2147483648), 2147483647))), [])], [], 0, 0)
def ct_85 : List cE := en_85 :: ct_84
set_option maxRecDepth 100000 in
theorem ck_85 : mC pg RR SHF mtL ct_84 en_85 [] [] 11 = true := by decide +kernel
theorem ok_85 (hl0 : l.1.stackTraces = false) (hA : ∀ e ∈ ctA, cOk l pg RR SHF e) : ∀ e ∈ ct_85, cOk l pg RR SHF e := List.forall_mem_cons.mpr ⟨meth_ok pg_ok mtL_ok hl0 (ok_84 hl0 hA) ⟨by decide +kernel, by decide +kernel, by decide +kernel⟩ (by decide +kernel) ck_85, (ok_84 hl0 hA)⟩
/-- FullHouseModel.count -/
def en_86 : cE := (194, [some (.inl (.ref 58)), some (.inr ((-2147483648), 2147483647))], [], ([], [(58, 0)]), [(some (some (.inr ((-2147483648), 2147483647))), [])], [], 0, 0)
def ct_86 : List cE := en_86 :: ct_85
set_option maxRecDepth 100000 in
theorem ck_86 : mC pg RR SHF mtL ct_85 en_86 [] [] 28 = true := by decide +kernel
theorem ok_86 (hl0 : l.1.stackTraces = false) (hA : ∀ e ∈ ctA, cOk l pg RR SHF e) : ∀ e ∈ ct_86, cOk l pg RR SHF e := List.forall_mem_cons.mpr ⟨meth_ok pg_ok mtL_ok hl0 (ok_85 hl0 hA) ⟨by decide +kernel, by decide +kernel, by decide +kernel⟩ (by decide +kernel) ck_86, (ok_85 hl0 hA)⟩
/-- FullHouseModel.person -/
def en_87 : cE := (196, [some (.inl (.ref 58)), some (.inr ((-2147483648), 2147483647)), some (.inr ((-2147483648), 2147483647))], [], ([], [(58, 0)]), [(some (some (.inr ((-2147483648), 2147483647))), [])], [], 0, 0)
def ct_87 : List cE := en_87 :: ct_86
set_option maxRecDepth 100000 in
theorem ck_87 : mC pg RR SHF mtL ct_86 en_87 [(59, [(0, some (.inl (.ref 58))), (1, some (.inr (0, 5))), (2, some (.inr (2, 2))), (3, some (.inr (0, 255))), (4, some (.inr (0, 8)))], [], 8, [(-1)], [])] [(0, 4, 0)] 34 = true := by decide +kernel
theorem ok_87 (hl0 : l.1.stackTraces = false) (hA : ∀ e ∈ ctA, cOk l pg RR SHF e) : ∀ e ∈ ct_87, cOk l pg RR SHF e := List.forall_mem_cons.mpr ⟨meth_ok pg_ok mtL_ok hl0 (ok_86 hl0 hA) ⟨by decide +kernel, by decide +kernel, by decide +kernel⟩ (by decide +kernel) ck_87, (ok_86 hl0 hA)⟩
/-- FullHouseModel.work -/
def en_88 : cE := (198, [some (.inl (.ref 58)), some (.inr ((-2147483648), 2147483647)), some (.inr ((-2147483648), 2147483647))], [], ([], [(58, 0)]), [(some (some (.inr ((-2147483648), 2147483647))), [])], [], 0, 0)
def ct_88 : List cE := en_88 :: ct_87
set_option maxRecDepth 100000 in
theorem ck_88 : mC pg RR SHF mtL ct_87 en_88 [(59, [(0, some (.inl (.ref 58))), (1, some (.inr (0, 7))), (2, some (.inr (2, 2))), (3, some (.inr (0, 63))), (4, some (.inr (0, 6)))], [], 6, [(-1)], [])] [(0, 4, 0)] 34 = true := by decide +kernel
theorem ok_88 (hl0 : l.1.stackTraces = false) (hA : ∀ e ∈ ctA, cOk l pg RR SHF e) : ∀ e ∈ ct_88, cOk l pg RR SHF e := List.forall_mem_cons.mpr ⟨meth_ok pg_ok mtL_ok hl0 (ok_87 hl0 hA) ⟨by decide +kernel, by decide +kernel, by decide +kernel⟩ (by decide +kernel) ck_88, (ok_87 hl0 hA)⟩
/-- FullHouseModel.skill -/
def en_89 : cE := (200, [some (.inl (.ref 58)), some (.inr ((-2147483648), 2147483647)), some (.inr ((-2147483648), 2147483647))], [], ([], [(58, 0)]), [(some (some (.inr (0, 9999))), [])], [], 0, 0)
def ct_89 : List cE := en_89 :: ct_88
set_option maxRecDepth 100000 in
theorem ck_89 : mC pg RR SHF mtL ct_88 en_89 [] [] 38 = true := by decide +kernel
theorem ok_89 (hl0 : l.1.stackTraces = false) (hA : ∀ e ∈ ctA, cOk l pg RR SHF e) : ∀ e ∈ ct_89, cOk l pg RR SHF e := List.forall_mem_cons.mpr ⟨meth_ok pg_ok mtL_ok hl0 (ok_88 hl0 hA) ⟨by decide +kernel, by decide +kernel, by decide +kernel⟩ (by decide +kernel) ck_89, (ok_88 hl0 hA)⟩
/-- FullHouseModel.teaching -/
def en_90 : cE := (201, [some (.inl (.ref 58)), some (.inr ((-2147483648), 2147483647)), some (.inr ((-2147483648), 2147483647))], [], ([], [(58, 0)]), [(some (some (.inr ((-2147483648), 2147483647))), [])], [], 0, 0)
def ct_90 : List cE := en_90 :: ct_89
set_option maxRecDepth 100000 in
theorem ck_90 : mC pg RR SHF mtL ct_89 en_90 [] [] 36 = true := by decide +kernel
theorem ok_90 (hl0 : l.1.stackTraces = false) (hA : ∀ e ∈ ctA, cOk l pg RR SHF e) : ∀ e ∈ ct_90, cOk l pg RR SHF e := List.forall_mem_cons.mpr ⟨meth_ok pg_ok mtL_ok hl0 (ok_89 hl0 hA) ⟨by decide +kernel, by decide +kernel, by decide +kernel⟩ (by decide +kernel) ck_90, (ok_89 hl0 hA)⟩
/-- FullHouseModel.fits -/
def en_91 : cE := (206, [some (.inl (.ref 58)), some (.inr (0, 255)), some (.inr ((-2147483648), 2147483647))], [], ([], []), [(some (some (.inr (0, 1))), [])], [], 0, 0)
def ct_91 : List cE := en_91 :: ct_90
set_option maxRecDepth 100000 in
theorem ck_91 : mC pg RR SHF mtL ct_90 en_91 [(5, [(0, some (.inl (.ref 58))), (1, some (.inr (0, 255))), (2, some (.inr ((-2147483648), 2147483647))), (3, some (.inr ((-2147483648), 2147483647))), (4, some (.inr (0, 8)))], [], 80, [(-9), 0], []), (39, [(0, some (.inl (.ref 58))), (1, some (.inr (0, 255))), (2, some (.inr ((-2147483648), 2147483647))), (3, some (.inr ((-2147483648), 2147483647))), (4, some (.inr (0, 7))), (5, some (.inr (0, 7)))], [], 79, [(-9), (-1)], [])] [(0, 4, 0), (0, 5, 0)] 50 = true := by decide +kernel
theorem ok_91 (hl0 : l.1.stackTraces = false) (hA : ∀ e ∈ ctA, cOk l pg RR SHF e) : ∀ e ∈ ct_91, cOk l pg RR SHF e := List.forall_mem_cons.mpr ⟨meth_ok pg_ok mtL_ok hl0 (ok_90 hl0 hA) ⟨by decide +kernel, by decide +kernel, by decide +kernel⟩ (by decide +kernel) ck_91, (ok_90 hl0 hA)⟩
/-- FullHouseModel.listsOf -/
def en_92 : cE := (205, [some (.inl (.ref 58)), some (.inr (0, 0)), some (.inr (0, 255))], [], ([73, 74], []), [(none, [])], [], 0, 0)
def ct_92 : List cE := en_92 :: ct_91
set_option maxRecDepth 100000 in
theorem ck_92 : mC pg RR SHF mtL ct_91 en_92 [(9, [(0, some (.inl (.ref 58))), (1, some (.inr (0, 0))), (2, some (.inr (0, 255))), (3, some (.inr (0, 256)))], [(74, 0, (0, 256), none)], 256, [(-1)], [((1, 74, 0), (0, 3, 0), (-256), 0)])] [(0, 3, 0)] 47 = true := by decide +kernel
theorem ok_92 (hl0 : l.1.stackTraces = false) (hA : ∀ e ∈ ctA, cOk l pg RR SHF e) : ∀ e ∈ ct_92, cOk l pg RR SHF e := List.forall_mem_cons.mpr ⟨meth_ok pg_ok mtL_ok hl0 (ok_91 hl0 hA) ⟨by decide +kernel, by decide +kernel, by decide +kernel⟩ (by decide +kernel) ck_92, (ok_91 hl0 hA)⟩
/-- FullHouseModel.listsOf -/
def en_93 : cE := (205, [some (.inl (.ref 58)), some (.inr (1, 1)), some (.inr (0, 255))], [], ([73, 74], []), [(none, [])], [], 0, 0)
def ct_93 : List cE := en_93 :: ct_92
set_option maxRecDepth 100000 in
theorem ck_93 : mC pg RR SHF mtL ct_92 en_93 [(9, [(0, some (.inl (.ref 58))), (1, some (.inr (1, 1))), (2, some (.inr (0, 255))), (3, some (.inr (0, 256)))], [(74, 1, (0, 256), none)], 256, [(-1)], [((1, 74, 1), (0, 3, 0), (-256), 0)])] [(0, 3, 0)] 47 = true := by decide +kernel
theorem ok_93 (hl0 : l.1.stackTraces = false) (hA : ∀ e ∈ ctA, cOk l pg RR SHF e) : ∀ e ∈ ct_93, cOk l pg RR SHF e := List.forall_mem_cons.mpr ⟨meth_ok pg_ok mtL_ok hl0 (ok_92 hl0 hA) ⟨by decide +kernel, by decide +kernel, by decide +kernel⟩ (by decide +kernel) ck_93, (ok_92 hl0 hA)⟩
/-- FullHouseModel.listsOf -/
def en_94 : cE := (205, [some (.inl (.ref 58)), some (.inr (2, 2)), some (.inr (0, 255))], [], ([73, 74], []), [(none, [])], [], 0, 0)
def ct_94 : List cE := en_94 :: ct_93
set_option maxRecDepth 100000 in
theorem ck_94 : mC pg RR SHF mtL ct_93 en_94 [(9, [(0, some (.inl (.ref 58))), (1, some (.inr (2, 2))), (2, some (.inr (0, 255))), (3, some (.inr (0, 256)))], [(74, 2, (0, 256), none)], 256, [(-1)], [((1, 74, 2), (0, 3, 0), (-256), 0)])] [(0, 3, 0)] 47 = true := by decide +kernel
theorem ok_94 (hl0 : l.1.stackTraces = false) (hA : ∀ e ∈ ctA, cOk l pg RR SHF e) : ∀ e ∈ ct_94, cOk l pg RR SHF e := List.forall_mem_cons.mpr ⟨meth_ok pg_ok mtL_ok hl0 (ok_93 hl0 hA) ⟨by decide +kernel, by decide +kernel, by decide +kernel⟩ (by decide +kernel) ck_94, (ok_93 hl0 hA)⟩
/-- FullHouseModel.listsOf -/
def en_95 : cE := (205, [some (.inl (.ref 58)), some (.inr (3, 3)), some (.inr (0, 255))], [], ([73, 74], []), [(none, [])], [], 0, 0)
def ct_95 : List cE := en_95 :: ct_94
set_option maxRecDepth 100000 in
theorem ck_95 : mC pg RR SHF mtL ct_94 en_95 [(9, [(0, some (.inl (.ref 58))), (1, some (.inr (3, 3))), (2, some (.inr (0, 255))), (3, some (.inr (0, 256)))], [(74, 3, (0, 256), none)], 256, [(-1)], [((1, 74, 3), (0, 3, 0), (-256), 0)])] [(0, 3, 0)] 47 = true := by decide +kernel
theorem ok_95 (hl0 : l.1.stackTraces = false) (hA : ∀ e ∈ ctA, cOk l pg RR SHF e) : ∀ e ∈ ct_95, cOk l pg RR SHF e := List.forall_mem_cons.mpr ⟨meth_ok pg_ok mtL_ok hl0 (ok_94 hl0 hA) ⟨by decide +kernel, by decide +kernel, by decide +kernel⟩ (by decide +kernel) ck_95, (ok_94 hl0 hA)⟩
/-- FullHouseModel.listsOf -/
def en_96 : cE := (205, [some (.inl (.ref 58)), some (.inr (4, 4)), some (.inr (0, 255))], [], ([73, 74], []), [(none, [])], [], 0, 0)
def ct_96 : List cE := en_96 :: ct_95
set_option maxRecDepth 100000 in
theorem ck_96 : mC pg RR SHF mtL ct_95 en_96 [(9, [(0, some (.inl (.ref 58))), (1, some (.inr (4, 4))), (2, some (.inr (0, 255))), (3, some (.inr (0, 256)))], [(74, 4, (0, 256), none)], 256, [(-1)], [((1, 74, 4), (0, 3, 0), (-256), 0)])] [(0, 3, 0)] 47 = true := by decide +kernel
theorem ok_96 (hl0 : l.1.stackTraces = false) (hA : ∀ e ∈ ctA, cOk l pg RR SHF e) : ∀ e ∈ ct_96, cOk l pg RR SHF e := List.forall_mem_cons.mpr ⟨meth_ok pg_ok mtL_ok hl0 (ok_95 hl0 hA) ⟨by decide +kernel, by decide +kernel, by decide +kernel⟩ (by decide +kernel) ck_96, (ok_95 hl0 hA)⟩
/-- FullHouseModel.listsOf -/
def en_97 : cE := (205, [some (.inl (.ref 58)), some (.inr (5, 5)), some (.inr (0, 255))], [], ([73, 74], []), [(none, [])], [], 0, 0)
def ct_97 : List cE := en_97 :: ct_96
set_option maxRecDepth 100000 in
theorem ck_97 : mC pg RR SHF mtL ct_96 en_97 [(9, [(0, some (.inl (.ref 58))), (1, some (.inr (5, 5))), (2, some (.inr (0, 255))), (3, some (.inr (0, 256)))], [(74, 5, (0, 256), none)], 256, [(-1)], [((1, 74, 5), (0, 3, 0), (-256), 0)])] [(0, 3, 0)] 47 = true := by decide +kernel
theorem ok_97 (hl0 : l.1.stackTraces = false) (hA : ∀ e ∈ ctA, cOk l pg RR SHF e) : ∀ e ∈ ct_97, cOk l pg RR SHF e := List.forall_mem_cons.mpr ⟨meth_ok pg_ok mtL_ok hl0 (ok_96 hl0 hA) ⟨by decide +kernel, by decide +kernel, by decide +kernel⟩ (by decide +kernel) ck_97, (ok_96 hl0 hA)⟩
/-- FullHouseModel.listsAll -/
def en_98 : cE := (204, [some (.inl (.ref 58)), some (.inr (0, 0))], [], ([73, 74, 75], []), [(none, [])], [], 0, 0)
def ct_98 : List cE := en_98 :: ct_97
set_option maxRecDepth 100000 in
theorem ck_98 : mC pg RR SHF mtL ct_97 en_98 [(2, [(0, some (.inl (.ref 58))), (1, some (.inr (0, 0))), (2, some (.inr (0, 6)))], [], 132, [(-19), 0], []), (15, [(0, some (.inl (.ref 58))), (1, some (.inr (0, 0))), (2, some (.inr (0, 5))), (3, some (.inr (0, 255))), (4, some (.inr (0, 8)))], [], 131, [(-19), (-1)], []), (83, [(0, some (.inl (.ref 58))), (1, some (.inr (0, 0))), (2, some (.inr (0, 5))), (3, some (.inr (0, 255))), (4, some (.inr (0, 8)))], [], 122, [(-19), (-1)], [])] [(0, 2, 0), (0, 4, 0)] 43 = true := by decide +kernel
theorem ok_98 (hl0 : l.1.stackTraces = false) (hA : ∀ e ∈ ctA, cOk l pg RR SHF e) : ∀ e ∈ ct_98, cOk l pg RR SHF e := List.forall_mem_cons.mpr ⟨meth_ok pg_ok mtL_ok hl0 (ok_97 hl0 hA) ⟨by decide +kernel, by decide +kernel, by decide +kernel⟩ (by decide +kernel) ck_98, (ok_97 hl0 hA)⟩
/-- FullHouseModel.copies -/
def en_99 : cE := (192, [some (.inl (.ref 58)), some (.inl (.ref 80)), some (.inl (.ref 79))], [], ([79], []), [(none, [])], [], 0, 0)
def ct_99 : List cE := en_99 :: ct_98
set_option maxRecDepth 100000 in
theorem ck_99 : mC pg RR SHF mtL ct_98 en_99 [(2, [(0, some (.inl (.ref 58))), (1, some (.inl (.ref 80))), (2, some (.inl (.ref 79))), (3, some (.inr (0, 8)))], [], 8, [(-1)], [])] [(0, 3, 0)] 17 = true := by decide +kernel
theorem ok_99 (hl0 : l.1.stackTraces = false) (hA : ∀ e ∈ ctA, cOk l pg RR SHF e) : ∀ e ∈ ct_99, cOk l pg RR SHF e := List.forall_mem_cons.mpr ⟨meth_ok pg_ok mtL_ok hl0 (ok_98 hl0 hA) ⟨by decide +kernel, by decide +kernel, by decide +kernel⟩ (by decide +kernel) ck_99, (ok_98 hl0 hA)⟩
/-- FullHouseModel.day -/
def en_100 : cE := (202, [some (.inl (.ref 58)), some (.inr ((-2147483648), 2147483647))], [], ([73, 74, 75, 76, 77, 78, 79, 80], [(58, 0), (58, 45), (58, 46)]), [(some (some (.inr ((-2147483648), 2147483647))), [])], [], 0, 0)
def ct_100 : List cE := en_100 :: ct_99
set_option maxRecDepth 100000 in
theorem ck_100 : mC pg RR SHF mtL ct_99 en_100 [] [] 37 = true := by decide +kernel
theorem ok_100 (hl0 : l.1.stackTraces = false) (hA : ∀ e ∈ ctA, cOk l pg RR SHF e) : ∀ e ∈ ct_100, cOk l pg RR SHF e := List.forall_mem_cons.mpr ⟨meth_ok pg_ok mtL_ok hl0 (ok_99 hl0 hA) ⟨by decide +kernel, by decide +kernel, by decide +kernel⟩ (by decide +kernel) ck_100, (ok_99 hl0 hA)⟩
/-- FullHouseModel.does -/
def en_101 : cE := (214, [some (.inl (.ref 58)), some (.inr ((-2147483648), 2147483647))], [], ([], [(58, 0)]), [(some (some (.inr (0, 5))), [])], [], 0, 0)
def ct_101 : List cE := en_101 :: ct_100
set_option maxRecDepth 100000 in
theorem ck_101 : mC pg RR SHF mtL ct_100 en_101 [] [] 34 = true := by decide +kernel
theorem ok_101 (hl0 : l.1.stackTraces = false) (hA : ∀ e ∈ ctA, cOk l pg RR SHF e) : ∀ e ∈ ct_101, cOk l pg RR SHF e := List.forall_mem_cons.mpr ⟨meth_ok pg_ok mtL_ok hl0 (ok_100 hl0 hA) ⟨by decide +kernel, by decide +kernel, by decide +kernel⟩ (by decide +kernel) ck_101, (ok_100 hl0 hA)⟩
/-- FullHouseModel.frees -/
def en_102 : cE := (210, [some (.inl (.ref 58))], [], ([76], []), [(none, [])], [], 0, 0)
def ct_102 : List cE := en_102 :: ct_101
set_option maxRecDepth 100000 in
theorem ck_102 : mC pg RR SHF mtL ct_101 en_102 [(2, [(0, some (.inl (.ref 58))), (1, some (.inr (0, 8)))], [], 8, [(-1)], [])] [(0, 1, 0)] 15 = true := by decide +kernel
theorem ok_102 (hl0 : l.1.stackTraces = false) (hA : ∀ e ∈ ctA, cOk l pg RR SHF e) : ∀ e ∈ ct_102, cOk l pg RR SHF e := List.forall_mem_cons.mpr ⟨meth_ok pg_ok mtL_ok hl0 (ok_101 hl0 hA) ⟨by decide +kernel, by decide +kernel, by decide +kernel⟩ (by decide +kernel) ck_102, (ok_101 hl0 hA)⟩
/-- FullHouseModel.isFixed -/
def en_103 : cE := (212, [some (.inl (.ref 58)), some (.inr (0, 5)), some (.inr (0, 255))], [], ([], []), [(some (some (.inr (0, 1))), [])], [], 0, 0)
def ct_103 : List cE := en_103 :: ct_102
set_option maxRecDepth 100000 in
theorem ck_103 : mC pg RR SHF mtL ct_102 en_103 [(2, [(0, some (.inl (.ref 58))), (1, some (.inr (0, 5))), (2, some (.inr (0, 255))), (3, some (.inr (0, 8)))], [], 8, [(-1)], [])] [(0, 3, 0)] 37 = true := by decide +kernel
theorem ok_103 (hl0 : l.1.stackTraces = false) (hA : ∀ e ∈ ctA, cOk l pg RR SHF e) : ∀ e ∈ ct_103, cOk l pg RR SHF e := List.forall_mem_cons.mpr ⟨meth_ok pg_ok mtL_ok hl0 (ok_102 hl0 hA) ⟨by decide +kernel, by decide +kernel, by decide +kernel⟩ (by decide +kernel) ck_103, (ok_102 hl0 hA)⟩
/-- FullHouseModel.gains -/
def en_104 : cE := (213, [some (.inl (.ref 58)), some (.inr (0, 5)), some (.inr (0, 255))], [], ([], []), [(some (some (.inr ((-2147483648), 2147483647))), [])], [], 0, 0)
def ct_104 : List cE := en_104 :: ct_103
set_option maxRecDepth 100000 in
theorem ck_104 : mC pg RR SHF mtL ct_103 en_104 [(5, [(0, some (.inl (.ref 58))), (1, some (.inr (0, 5))), (2, some (.inr (0, 255))), (3, some (.inr ((-2147483648), 2147483647))), (4, some (.inr (0, 8)))], [], 8, [(-1)], [])] [(0, 4, 0)] 30 = true := by decide +kernel
theorem ok_104 (hl0 : l.1.stackTraces = false) (hA : ∀ e ∈ ctA, cOk l pg RR SHF e) : ∀ e ∈ ct_104, cOk l pg RR SHF e := List.forall_mem_cons.mpr ⟨meth_ok pg_ok mtL_ok hl0 (ok_103 hl0 hA) ⟨by decide +kernel, by decide +kernel, by decide +kernel⟩ (by decide +kernel) ck_104, (ok_103 hl0 hA)⟩
/-- FullHouseModel.copies -/
def en_105 : cE := (192, [some (.inl (.ref 58)), some (.inl (.ref 78)), some (.inl (.ref 77))], [], ([77], []), [(none, [])], [], 0, 0)
def ct_105 : List cE := en_105 :: ct_104
set_option maxRecDepth 100000 in
theorem ck_105 : mC pg RR SHF mtL ct_104 en_105 [(2, [(0, some (.inl (.ref 58))), (1, some (.inl (.ref 78))), (2, some (.inl (.ref 77))), (3, some (.inr (0, 256)))], [], 256, [(-1)], [])] [(0, 3, 0)] 17 = true := by decide +kernel
theorem ok_105 (hl0 : l.1.stackTraces = false) (hA : ∀ e ∈ ctA, cOk l pg RR SHF e) : ∀ e ∈ ct_105, cOk l pg RR SHF e := List.forall_mem_cons.mpr ⟨meth_ok pg_ok mtL_ok hl0 (ok_104 hl0 hA) ⟨by decide +kernel, by decide +kernel, by decide +kernel⟩ (by decide +kernel) ck_105, (ok_104 hl0 hA)⟩
/-- FullHouseModel.fills -/
def en_106 : cE := (211, [some (.inl (.ref 58)), some (.inr (0, 63))], [], ([77, 78], []), [(none, [])], [], 0, 0)
def ct_106 : List cE := en_106 :: ct_105
set_option maxRecDepth 100000 in
theorem ck_106 : mC pg RR SHF mtL ct_105 en_106 [(2, [(0, some (.inl (.ref 58))), (1, some (.inr (0, 63))), (2, some (.inr (0, 256)))], [], 466204, [(-1), 0, 0], []), (35, [(0, some (.inl (.ref 58))), (1, some (.inr (0, 63))), (2, some (.inr (0, 6)))], [], 465947, [(-66564), 0, 0], []), (56, [(0, some (.inl (.ref 58))), (1, some (.inr (0, 63))), (2, some (.inr (0, 5))), (3, some (.inr (0, 256)))], [], 465946, [(-66564), (-1), 0], []), (81, [(0, some (.inl (.ref 58))), (1, some (.inr (0, 63))), (2, some (.inr (0, 5))), (3, some (.inr (0, 256)))], [], 465689, [(-66564), (-258), 0], []), (130, [(0, some (.inl (.ref 58))), (1, some (.inr (0, 63))), (2, some (.inr (0, 5))), (3, some (.inr (0, 255))), (4, some (.inr (0, 255))), (5, some (.inr ((-2147483648), 2147483647))), (6, some (.inr (0, 256)))], [], 465688, [(-66564), (-258), (-1)], [])] [(0, 2, 0), (0, 3, 0), (0, 6, 0)] 48 = true := by decide +kernel
theorem ok_106 (hl0 : l.1.stackTraces = false) (hA : ∀ e ∈ ctA, cOk l pg RR SHF e) : ∀ e ∈ ct_106, cOk l pg RR SHF e := List.forall_mem_cons.mpr ⟨meth_ok pg_ok mtL_ok hl0 (ok_105 hl0 hA) ⟨by decide +kernel, by decide +kernel, by decide +kernel⟩ (by decide +kernel) ck_106, (ok_105 hl0 hA)⟩
/-- FullHouseModel.bits -/
def en_107 : cE := (217, [some (.inr (0, 255))], [], ([], []), [(some (some (.inr (0, 8))), [])], [], 0, 0)
def ct_107 : List cE := en_107 :: ct_106
set_option maxRecDepth 100000 in
theorem ck_107 : mC pg RR SHF mtL ct_106 en_107 [] [] 118 = true := by decide +kernel
theorem ok_107 (hl0 : l.1.stackTraces = false) (hA : ∀ e ∈ ctA, cOk l pg RR SHF e) : ∀ e ∈ ct_107, cOk l pg RR SHF e := List.forall_mem_cons.mpr ⟨meth_ok pg_ok mtL_ok hl0 (ok_106 hl0 hA) ⟨by decide +kernel, by decide +kernel, by decide +kernel⟩ (by decide +kernel) ck_107, (ok_106 hl0 hA)⟩
/-- FullHouseModel.mostOf -/
def en_108 : cE := (216, [some (.inl (.ref 58)), some (.inr (0, 63))], [], ([76, 77, 78], []), [(some (some (.inr (0, 8))), [])], [], 0, 0)
def ct_108 : List cE := en_108 :: ct_107
set_option maxRecDepth 100000 in
theorem ck_108 : mC pg RR SHF mtL ct_107 en_108 [(13, [(0, some (.inl (.ref 58))), (1, some (.inr (0, 63))), (2, some (.inr (0, 8))), (3, some (.inr (0, 256)))], [], 256, [(-1)], [])] [(0, 3, 0)] 27 = true := by decide +kernel
theorem ok_108 (hl0 : l.1.stackTraces = false) (hA : ∀ e ∈ ctA, cOk l pg RR SHF e) : ∀ e ∈ ct_108, cOk l pg RR SHF e := List.forall_mem_cons.mpr ⟨meth_ok pg_ok mtL_ok hl0 (ok_107 hl0 hA) ⟨by decide +kernel, by decide +kernel, by decide +kernel⟩ (by decide +kernel) ck_108, (ok_107 hl0 hA)⟩
/-- FullHouseModel.most -/
def en_109 : cE := (215, [some (.inl (.ref 58)), some (.inr ((-2147483648), 2147483647))], [], ([73, 74, 75, 76, 77, 78], [(58, 0)]), [(some (some (.inr (0, 8))), [])], [], 0, 0)
def ct_109 : List cE := en_109 :: ct_108
set_option maxRecDepth 100000 in
theorem ck_109 : mC pg RR SHF mtL ct_108 en_109 [] [] 37 = true := by decide +kernel
theorem ok_109 (hl0 : l.1.stackTraces = false) (hA : ∀ e ∈ ctA, cOk l pg RR SHF e) : ∀ e ∈ ct_109, cOk l pg RR SHF e := List.forall_mem_cons.mpr ⟨meth_ok pg_ok mtL_ok hl0 (ok_108 hl0 hA) ⟨by decide +kernel, by decide +kernel, by decide +kernel⟩ (by decide +kernel) ck_109, (ok_108 hl0 hA)⟩
/-- FullHouseModel.bars -/
def en_110 : cE := (218, [some (.inl (.ref 58)), some (.inr ((-2147483648), 2147483647))], [], ([73, 74, 75, 76, 77, 78], [(58, 0)]), [(some (some (.inr ((-1), 255))), [])], [], 0, 0)
def ct_110 : List cE := en_110 :: ct_109
set_option maxRecDepth 100000 in
theorem ck_110 : mC pg RR SHF mtL ct_109 en_110 [(35, [(0, some (.inl (.ref 58))), (1, some (.inr (0, 63))), (2, some (.inr ((-1), 255))), (3, some (.inr (0, 256)))], [], 256, [(-1)], [])] [(0, 3, 0)] 38 = true := by decide +kernel
theorem ok_110 (hl0 : l.1.stackTraces = false) (hA : ∀ e ∈ ctA, cOk l pg RR SHF e) : ∀ e ∈ ct_110, cOk l pg RR SHF e := List.forall_mem_cons.mpr ⟨meth_ok pg_ok mtL_ok hl0 (ok_109 hl0 hA) ⟨by decide +kernel, by decide +kernel, by decide +kernel⟩ (by decide +kernel) ck_110, (ok_109 hl0 hA)⟩
/-- FullHouseModel.tell -/
def en_111 : cE := (219, [some (.inl (.ref 58)), some (.inr ((-2147483648), 2147483647)), some (.inr ((-2147483648), 2147483647))], [], ([66, 81], [(58, 0)]), [(some (some (.inr (0, 1))), [])], [], 0, 0)
def ct_111 : List cE := en_111 :: ct_110
set_option maxRecDepth 100000 in
theorem ck_111 : mC pg RR SHF mtL ct_110 en_111 [] [] 31 = true := by decide +kernel
theorem ok_111 (hl0 : l.1.stackTraces = false) (hA : ∀ e ∈ ctA, cOk l pg RR SHF e) : ∀ e ∈ ct_111, cOk l pg RR SHF e := List.forall_mem_cons.mpr ⟨meth_ok pg_ok mtL_ok hl0 (ok_110 hl0 hA) ⟨by decide +kernel, by decide +kernel, by decide +kernel⟩ (by decide +kernel) ck_111, (ok_110 hl0 hA)⟩
/-- FullHouseModel.troubleOf -/
def en_112 : cE := (221, [some (.inl (.ref 58)), some (.inr (0, 7)), some (.inr (0, 63))], [], ([], []), [(some (some (.inr (0, 5))), [])], [], 0, 0)
def ct_112 : List cE := en_112 :: ct_111
set_option maxRecDepth 100000 in
theorem ck_112 : mC pg RR SHF mtL ct_111 en_112 [(54, [(0, some (.inl (.ref 58))), (1, some (.inr (0, 7))), (2, some (.inr (0, 63))), (3, some (.inr (0, 5))), (4, some (.inr ((-2147483648), 2147483647))), (5, some (.inr (0, 1))), (6, some (.inr (0, 7)))], [], 7, [(-1)], [])] [(0, 6, 0)] 58 = true := by decide +kernel
theorem ok_112 (hl0 : l.1.stackTraces = false) (hA : ∀ e ∈ ctA, cOk l pg RR SHF e) : ∀ e ∈ ct_112, cOk l pg RR SHF e := List.forall_mem_cons.mpr ⟨meth_ok pg_ok mtL_ok hl0 (ok_111 hl0 hA) ⟨by decide +kernel, by decide +kernel, by decide +kernel⟩ (by decide +kernel) ck_112, (ok_111 hl0 hA)⟩
/-- FullHouseModel.judge -/
def en_113 : cE := (220, [some (.inl (.ref 58)), some (.inr ((-2147483648), 2147483647))], [], ([], [(58, 0)]), [(some (some (.inr ((-1), 75))), [])], [], 0, 0)
def ct_113 : List cE := en_113 :: ct_112
set_option maxRecDepth 100000 in
theorem ck_113 : mC pg RR SHF mtL ct_112 en_113 [(18, [(0, some (.inl (.ref 58))), (1, some (.inr (0, 63))), (2, some (.inr (0, 8)))], [], 8, [(-1)], [])] [(0, 2, 0)] 37 = true := by decide +kernel
theorem ok_113 (hl0 : l.1.stackTraces = false) (hA : ∀ e ∈ ctA, cOk l pg RR SHF e) : ∀ e ∈ ct_113, cOk l pg RR SHF e := List.forall_mem_cons.mpr ⟨meth_ok pg_ok mtL_ok hl0 (ok_112 hl0 hA) ⟨by decide +kernel, by decide +kernel, by decide +kernel⟩ (by decide +kernel) ck_113, (ok_112 hl0 hA)⟩
/-- FullHouseModel.holds -/
def en_114 : cE := (223, [some (.inl (.ref 58)), some (.inr (1, 1))], [], ([76, 77, 78], []), [(some (some (.inr (0, 1))), [])], [], 0, 0)
def ct_114 : List cE := en_114 :: ct_113
set_option maxRecDepth 100000 in
theorem ck_114 : mC pg RR SHF mtL ct_113 en_114 [(11, [(0, some (.inl (.ref 58))), (1, some (.inr (1, 1))), (2, some (.inr (0, 63))), (3, some (.inr (0, 6)))], [], 48, [(-7), 0], []), (50, [(0, some (.inl (.ref 58))), (1, some (.inr (1, 1))), (2, some (.inr (0, 63))), (3, some (.inr (0, 5))), (4, some (.inr (0, 5)))], [], 47, [(-7), (-1)], [])] [(0, 3, 0), (0, 4, 0)] 43 = true := by decide +kernel
theorem ok_114 (hl0 : l.1.stackTraces = false) (hA : ∀ e ∈ ctA, cOk l pg RR SHF e) : ∀ e ∈ ct_114, cOk l pg RR SHF e := List.forall_mem_cons.mpr ⟨meth_ok pg_ok mtL_ok hl0 (ok_113 hl0 hA) ⟨by decide +kernel, by decide +kernel, by decide +kernel⟩ (by decide +kernel) ck_114, (ok_113 hl0 hA)⟩
/-- FullHouseModel.holds -/
def en_115 : cE := (223, [some (.inl (.ref 58)), some (.inr (0, 0))], [], ([76, 77, 78], []), [(some (some (.inr (0, 1))), [])], [], 0, 0)
def ct_115 : List cE := en_115 :: ct_114
set_option maxRecDepth 100000 in
theorem ck_115 : mC pg RR SHF mtL ct_114 en_115 [(11, [(0, some (.inl (.ref 58))), (1, some (.inr (0, 0))), (2, some (.inr (0, 63))), (3, some (.inr (0, 6)))], [], 13, [(-2)], []), (50, [(0, some (.inl (.ref 58))), (1, some (.inr (0, 0))), (2, some (.inr (0, 63))), (3, some (.inr (0, 5))), (4, some (.inr (0, 0)))], [], 12, [(-2)], [])] [(0, 3, 0)] 39 = true := by decide +kernel
theorem ok_115 (hl0 : l.1.stackTraces = false) (hA : ∀ e ∈ ctA, cOk l pg RR SHF e) : ∀ e ∈ ct_115, cOk l pg RR SHF e := List.forall_mem_cons.mpr ⟨meth_ok pg_ok mtL_ok hl0 (ok_114 hl0 hA) ⟨by decide +kernel, by decide +kernel, by decide +kernel⟩ (by decide +kernel) ck_115, (ok_114 hl0 hA)⟩
/-- FullHouseModel.any -/
def en_116 : cE := (222, [some (.inl (.ref 58)), some (.inr ((-2147483648), 2147483647))], [], ([73, 74, 75, 76, 77, 78], [(58, 0)]), [(some (some (.inr ((-2147483648), 2147483647))), [])], [], 0, 0)
def ct_116 : List cE := en_116 :: ct_115
set_option maxRecDepth 100000 in
theorem ck_116 : mC pg RR SHF mtL ct_115 en_116 [(71, [(0, some (.inl (.ref 58))), (1, some (.inr (0, 1))), (2, some (.inr (0, 63))), (3, some (.inr (0, 63))), (4, some (.inr ((-2147483648), 2147483647))), (5, some (.inr (0, 6)))], [], 48, [(-7), 0], []), (109, [(0, some (.inl (.ref 58))), (1, some (.inr (0, 1))), (2, some (.inr (0, 63))), (3, some (.inr (0, 63))), (4, some (.inr ((-2147483648), 2147483647))), (5, some (.inr (0, 5))), (6, some (.inr (0, 5)))], [], 47, [(-7), (-1)], [])] [(0, 5, 0), (0, 6, 0)] 41 = true := by decide +kernel
theorem ok_116 (hl0 : l.1.stackTraces = false) (hA : ∀ e ∈ ctA, cOk l pg RR SHF e) : ∀ e ∈ ct_116, cOk l pg RR SHF e := List.forall_mem_cons.mpr ⟨meth_ok pg_ok mtL_ok hl0 (ok_115 hl0 hA) ⟨by decide +kernel, by decide +kernel, by decide +kernel⟩ (by decide +kernel) ck_116, (ok_115 hl0 hA)⟩
/-- FullHouseModel.more -/
def en_117 : cE := (227, [some (.inl (.ref 58))], [], ([73, 74, 75, 76, 77, 78, 82], [(58, 0)]), [(some (some (.inr ((-1), 255))), [])], [], 0, 0)
def ct_117 : List cE := en_117 :: ct_116
set_option maxRecDepth 100000 in
theorem ck_117 : mC pg RR SHF mtL ct_116 en_117 [(25, [(0, some (.inl (.ref 58))), (1, some (.inr (0, 255))), (2, some (.inr (0, 6)))], [], 466204, [(-258), 0, 0, 0], []), (53, [(0, some (.inl (.ref 58))), (1, some (.inr (0, 255))), (2, some (.inr (0, 5))), (3, some (.inr (0, 256)))], [], 466203, [(-258), (-1), 0, 0], []), (101, [(0, some (.inl (.ref 58))), (1, some (.inr (0, 255))), (2, some (.inr ((-1), 255))), (3, some (.inr (0, 256)))], [], 464398, [0, (-1807), 0, 0], []), (131, [(0, some (.inl (.ref 58))), (1, some (.inr (0, 255))), (2, some (.inr ((-1), 255))), (3, some (.inr (0, 255))), (4, some (.inr (0, 1))), (5, some (.inr (0, 6)))], [], 464397, [0, (-1807), (-258), 0], []), (151, [(0, some (.inl (.ref 58))), (1, some (.inr (0, 255))), (2, some (.inr ((-1), 255))), (3, some (.inr (0, 255))), (4, some (.inr (0, 1))), (5, some (.inr (0, 5))), (6, some (.inr (0, 256)))], [], 464396, [0, (-1807), (-258), (-1)], [])] [(0, 2, 0), (0, 3, 0), (0, 5, 0), (0, 6, 0)] 39 = true := by decide +kernel
theorem ok_117 (hl0 : l.1.stackTraces = false) (hA : ∀ e ∈ ctA, cOk l pg RR SHF e) : ∀ e ∈ ct_117, cOk l pg RR SHF e := List.forall_mem_cons.mpr ⟨meth_ok pg_ok mtL_ok hl0 (ok_116 hl0 hA) ⟨by decide +kernel, by decide +kernel, by decide +kernel⟩ (by decide +kernel) ck_117, (ok_116 hl0 hA)⟩
/-- FullHouseModel.sights -/
def en_118 : cE := (231, [some (.inl (.ref 58))], [], ([73, 74, 75, 76, 77, 78, 80, 84], [(58, 46)]), [(none, [])], [], 0, 0)
def ct_118 : List cE := en_118 :: ct_117
set_option maxRecDepth 100000 in
theorem ck_118 : mC pg RR SHF mtL ct_117 en_118 [(7, [(0, some (.inl (.ref 58))), (1, some (.inr (0, 7)))], [], 79, [(-10), 0], []), (48, [(0, some (.inl (.ref 58))), (1, some (.inr (0, 6))), (2, some (.inr (0, 1))), (3, some (.inr (0, 8)))], [], 78, [(-10), (-1)], [])] [(0, 1, 0), (0, 3, 0)] 33 = true := by decide +kernel
theorem ok_118 (hl0 : l.1.stackTraces = false) (hA : ∀ e ∈ ctA, cOk l pg RR SHF e) : ∀ e ∈ ct_118, cOk l pg RR SHF e := List.forall_mem_cons.mpr ⟨meth_ok pg_ok mtL_ok hl0 (ok_117 hl0 hA) ⟨by decide +kernel, by decide +kernel, by decide +kernel⟩ (by decide +kernel) ck_118, (ok_117 hl0 hA)⟩
/-- FullHouseModel.areLike -/
def en_119 : cE := (233, [some (.inl (.ref 58)), some (.inr (0, 6)), some (.inr (0, 6)), some (.inr (0, 255))], [], ([], []), [(some (some (.inr (0, 1))), [])], [], 0, 0)
def ct_119 : List cE := en_119 :: ct_118
set_option maxRecDepth 100000 in
theorem ck_119 : mC pg RR SHF mtL ct_118 en_119 [(3, [(0, some (.inl (.ref 58))), (1, some (.inr (0, 6))), (2, some (.inr (0, 6))), (3, some (.inr (0, 255))), (4, some (.inr (0, 8)))], [], 8, [(-1)], [])] [(0, 4, 0)] 35 = true := by decide +kernel
theorem ok_119 (hl0 : l.1.stackTraces = false) (hA : ∀ e ∈ ctA, cOk l pg RR SHF e) : ∀ e ∈ ct_119, cOk l pg RR SHF e := List.forall_mem_cons.mpr ⟨meth_ok pg_ok mtL_ok hl0 (ok_118 hl0 hA) ⟨by decide +kernel, by decide +kernel, by decide +kernel⟩ (by decide +kernel) ck_119, (ok_118 hl0 hA)⟩
/-- FullHouseModel.chanceOf -/
def en_120 : cE := (234, [some (.inl (.ref 58)), some (.inr (0, 6))], [], ([], []), [(some (some (.inr ((-2147483648), 2147483647))), [])], [], 0, 0)
def ct_120 : List cE := en_120 :: ct_119
set_option maxRecDepth 100000 in
theorem ck_120 : mC pg RR SHF mtL ct_119 en_120 [(21, [(0, some (.inl (.ref 58))), (1, some (.inr (0, 6))), (2, some (.inr ((-2147483648), 2147483647))), (3, some (.inr (0, 6)))], [], 6, [(-1)], [])] [(0, 3, 0)] 18 = true := by decide +kernel
theorem ok_120 (hl0 : l.1.stackTraces = false) (hA : ∀ e ∈ ctA, cOk l pg RR SHF e) : ∀ e ∈ ct_120, cOk l pg RR SHF e := List.forall_mem_cons.mpr ⟨meth_ok pg_ok mtL_ok hl0 (ok_119 hl0 hA) ⟨by decide +kernel, by decide +kernel, by decide +kernel⟩ (by decide +kernel) ck_120, (ok_119 hl0 hA)⟩
end CT
