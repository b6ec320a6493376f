section CT
variable {l : aL}
/-- Learning.bound -/
def ens_61 : cE := (136, [some (.inl (.ref 40)), some (.inl (.ref 17)), some (.inr (2, 2))], [], ([], []), [(some (some (.inr ((-2147483648), 2147483647))), [])], [], 0, 0)
def cts_61 : List cE := ens_61 :: cts_60
set_option maxRecDepth 100000 in
theorem cks_61 : mC pg RRS SHF mtL cts_60 ens_61 [(5, [(0, some (.inl (.ref 40))), (1, some (.inl (.ref 17))), (2, some (.inr (2, 2))), (3, some (.inr ((-2147483648), 2147483647))), (4, some (.inr (0, 8)))], [], 35, [(-4), 0], []), (34, [(0, some (.inl (.ref 40))), (1, some (.inl (.ref 17))), (2, some (.inr (2, 2))), (3, some (.inr ((-2147483648), 2147483647))), (4, some (.inr (0, 7))), (5, some (.inr ((-6), 2))), (6, some (.inr (0, 255))), (7, some (.inr (0, 2)))], [], 34, [(-4), (-1)], [])] [(0, 4, 0), (0, 7, 0)] 31 = true := by decide +kernel
theorem oks_61 (hl0 : l.1.stackTraces = false) (hA : ∀ e ∈ ctA, cOk l pg RRS SHF e) : ∀ e ∈ cts_61, cOk l pg RRS SHF e := List.forall_mem_cons.mpr ⟨meth_ok pg_ok mtL_ok hl0 (oks_60 hl0 hA) ⟨by decide +kernel, by decide +kernel, by decide +kernel⟩ (by decide +kernel) cks_61, (oks_60 hl0 hA)⟩
/-- Arrays.fill -/
def ens_62 : cE := (17, [some (.inl (.ref 42)), none], [], ([], []), [(none, [])], [], 0, 0)
def cts_62 : List cE := ens_62 :: cts_61
set_option maxRecDepth 100000 in
theorem cks_62 : mC pg RRS SHF mtL cts_61 ens_62 [(6, [(0, some (.inl (.ref 42))), (1, none), (3, some (.inr (0, 256))), (4, some (.inr (256, 256)))], [], 256, [(-1)], [])] [(0, 3, 0)] 14 = true := by decide +kernel
theorem oks_62 (hl0 : l.1.stackTraces = false) (hA : ∀ e ∈ ctA, cOk l pg RRS SHF e) : ∀ e ∈ cts_62, cOk l pg RRS SHF e := List.forall_mem_cons.mpr ⟨meth_ok pg_ok mtL_ok hl0 (oks_61 hl0 hA) ⟨by decide +kernel, by decide +kernel, by decide +kernel⟩ (by decide +kernel) cks_62, (oks_61 hl0 hA)⟩
/-- Lefts.withHelp -/
def ens_63 : cE := (19, [some (.inl (.ref 41)), some (.inl (.ref 30)), some (.inr (0, 255)), some (.inr (0, 255)), some (.inr (0, 24))], [], ([], []), [(some (none), [])], [], 0, 0)
def cts_63 : List cE := ens_63 :: cts_62
set_option maxRecDepth 100000 in
theorem cks_63 : mC pg RRS SHF mtL cts_62 ens_63 [(17, [(0, some (.inl (.ref 41))), (1, some (.inl (.ref 30))), (2, some (.inr (0, 255))), (3, some (.inr (0, 255))), (4, some (.inr (0, 24))), (5, some (.inr (0, 255))), (6, none), (8, some (.inr (0, 255)))], [], 0, [1], [])] [(0, 8, 0)] 29 = true := by decide +kernel
theorem oks_63 (hl0 : l.1.stackTraces = false) (hA : ∀ e ∈ ctA, cOk l pg RRS SHF e) : ∀ e ∈ cts_63, cOk l pg RRS SHF e := List.forall_mem_cons.mpr ⟨meth_ok pg_ok mtL_ok hl0 (oks_62 hl0 hA) ⟨by decide +kernel, by decide +kernel, by decide +kernel⟩ (by decide +kernel) cks_63, (oks_62 hl0 hA)⟩
/-- Lefts.fill -/
def ens_64 : cE := (16, [some (.inl (.ref 41)), some (.inl (.ref 17)), some (.inl (.ref 30)), some (.inl (.ref 44))], [], ([], []), [(none, [])], [], 0, 0)
def cts_64 : List cE := ens_64 :: cts_63
set_option maxRecDepth 100000 in
theorem cks_64 : mC pg RRS SHF mtL cts_63 ens_64 [(18, [(0, some (.inl (.ref 41))), (1, some (.inl (.ref 17))), (2, some (.inl (.ref 30))), (3, some (.inl (.ref 44))), (4, some (.inr (0, 6)))], [], 1805, [(-258), 0], []), (33, [(0, some (.inl (.ref 41))), (1, some (.inl (.ref 17))), (2, some (.inl (.ref 30))), (3, some (.inl (.ref 44))), (4, some (.inr (0, 5))), (5, some (.inr ((-1), 255)))], [], 1549, [(-258), 1], [])] [(0, 4, 0), (0, 5, 0)] 33 = true := by decide +kernel
theorem oks_64 (hl0 : l.1.stackTraces = false) (hA : ∀ e ∈ ctA, cOk l pg RRS SHF e) : ∀ e ∈ cts_64, cOk l pg RRS SHF e := List.forall_mem_cons.mpr ⟨meth_ok pg_ok mtL_ok hl0 (oks_63 hl0 hA) ⟨by decide +kernel, by decide +kernel, by decide +kernel⟩ (by decide +kernel) cks_64, (oks_63 hl0 hA)⟩
/-- Learning.holdsWith -/
def ens_65 : cE := (134, [some (.inl (.ref 40)), some (.inl (.ref 17)), some (.inl (.ref 30)), some (.inr (0, 255)), none], [], ([44], []), [(some (some (.inr (0, 1))), [])], [], 0, 0)
def cts_65 : List cE := ens_65 :: cts_64
set_option maxRecDepth 100000 in
theorem cks_65 : mC pg RRS SHF mtL cts_64 ens_65 [(18, [(0, some (.inl (.ref 40))), (1, some (.inl (.ref 17))), (2, some (.inl (.ref 30))), (3, some (.inr (0, 255))), (4, none), (6, some (.inr (0, 8)))], [], 8, [(-1)], [])] [(0, 6, 0)] 39 = true := by decide +kernel
theorem oks_65 (hl0 : l.1.stackTraces = false) (hA : ∀ e ∈ ctA, cOk l pg RRS SHF e) : ∀ e ∈ cts_65, cOk l pg RRS SHF e := List.forall_mem_cons.mpr ⟨meth_ok pg_ok mtL_ok hl0 (oks_64 hl0 hA) ⟨by decide +kernel, by decide +kernel, by decide +kernel⟩ (by decide +kernel) cks_65, (oks_64 hl0 hA)⟩
/-- House.painsOf -/
def ens_66 : cE := (135, [some (.inl (.ref 17)), some (.inr (0, 255))], [], ([], []), [(some (some (.inr ((-2147483648), 2147483647))), [])], [], 0, 0)
def cts_66 : List cE := ens_66 :: cts_65
set_option maxRecDepth 100000 in
theorem cks_66 : mC pg RRS SHF mtL cts_65 ens_66 [(4, [(0, some (.inl (.ref 17))), (1, some (.inr (0, 255))), (2, some (.inr ((-2147483648), 2147483647))), (3, some (.inr (0, 8)))], [], 8, [(-1)], [])] [(0, 3, 0)] 24 = true := by decide +kernel
theorem oks_66 (hl0 : l.1.stackTraces = false) (hA : ∀ e ∈ ctA, cOk l pg RRS SHF e) : ∀ e ∈ cts_66, cOk l pg RRS SHF e := List.forall_mem_cons.mpr ⟨meth_ok pg_ok mtL_ok hl0 (oks_65 hl0 hA) ⟨by decide +kernel, by decide +kernel, by decide +kernel⟩ (by decide +kernel) cks_66, (oks_65 hl0 hA)⟩
/-- Learning.seek -/
def ens_67 : cE := (132, [some (.inl (.ref 40)), some (.inl (.ref 17)), some (.inl (.ref 30)), none], [], ([44], []), [(some (some (.inr ((-1), 255))), [])], [], 0, 0)
def cts_67 : List cE := ens_67 :: cts_66
set_option maxRecDepth 100000 in
theorem cks_67 : mC pg RRS SHF mtL cts_66 ens_67 [(26, [(0, some (.inl (.ref 40))), (1, some (.inl (.ref 17))), (2, some (.inl (.ref 30))), (3, none), (5, some (.inr (0, 255))), (6, some (.inr (0, 255))), (7, some (.inr (0, 8)))], [], 265, [(-1), 0], []), (78, [(0, some (.inl (.ref 40))), (1, some (.inl (.ref 17))), (2, some (.inl (.ref 30))), (3, none), (5, some (.inr (0, 255))), (6, some (.inr (0, 255))), (7, some (.inr (0, 255))), (8, some (.inr ((-2147483648), 2147483647))), (9, some (.inr (0, 256)))], [], 256, [0, (-1)], [])] [(0, 7, 0), (0, 9, 0)] 34 = true := by decide +kernel
theorem oks_67 (hl0 : l.1.stackTraces = false) (hA : ∀ e ∈ ctA, cOk l pg RRS SHF e) : ∀ e ∈ cts_67, cOk l pg RRS SHF e := List.forall_mem_cons.mpr ⟨meth_ok pg_ok mtL_ok hl0 (oks_66 hl0 hA) ⟨by decide +kernel, by decide +kernel, by decide +kernel⟩ (by decide +kernel) cks_67, (oks_66 hl0 hA)⟩
/-- House.painsOf -/
def ens_68 : cE := (135, [some (.inl (.ref 17)), some (.inr ((-2147483648), 2147483647))], [], ([], []), [(some (some (.inr ((-2147483648), 2147483647))), [])], [], 0, 0)
def cts_68 : List cE := ens_68 :: cts_67
set_option maxRecDepth 100000 in
theorem cks_68 : mC pg RRS SHF mtL cts_67 ens_68 [(4, [(0, some (.inl (.ref 17))), (1, some (.inr ((-2147483648), 2147483647))), (2, some (.inr ((-2147483648), 2147483647))), (3, some (.inr (0, 8)))], [], 8, [(-1)], [])] [(0, 3, 0)] 24 = true := by decide +kernel
theorem oks_68 (hl0 : l.1.stackTraces = false) (hA : ∀ e ∈ ctA, cOk l pg RRS SHF e) : ∀ e ∈ cts_68, cOk l pg RRS SHF e := List.forall_mem_cons.mpr ⟨meth_ok pg_ok mtL_ok hl0 (oks_67 hl0 hA) ⟨by decide +kernel, by decide +kernel, by decide +kernel⟩ (by decide +kernel) cks_68, (oks_67 hl0 hA)⟩
/-- FullHouse.learn -/
def ens_69 : cE := (129, [some (.inl (.ref 0)), some (.inr (0, 1)), some (.inr ((-2147483648), 2147483647))], [], ([44], [(40, 2), (40, 3)]), [(some (some (.inr ((-2147483648), 2147483647))), [])], ["java/util/NoSuchElementException"], 2, 12)
def cts_69 : List cE := ens_69 :: cts_68
set_option maxRecDepth 100000 in
theorem cks_69 : mC pg RRS SHF mtL cts_68 ens_69 [] [] 37 = true := by decide +kernel
theorem oks_69 (hl0 : l.1.stackTraces = false) (hA : ∀ e ∈ ctA, cOk l pg RRS SHF e) : ∀ e ∈ cts_69, cOk l pg RRS SHF e := List.forall_mem_cons.mpr ⟨meth_ok pg_ok mtL_ok hl0 (oks_68 hl0 hA) ⟨by decide +kernel, by decide +kernel, by decide +kernel⟩ (by decide +kernel) cks_69, (oks_68 hl0 hA)⟩
/-- Arrays.fill -/
def ens_70 : cE := (12, [some (.inl (.ref 48)), some (.inr ((-1), (-1)))], [], ([48], []), [(none, [])], [], 0, 0)
def cts_70 : List cE := ens_70 :: cts_69
set_option maxRecDepth 100000 in
theorem cks_70 : mC pg RRS SHF mtL cts_69 ens_70 [(5, [(0, some (.inl (.ref 48))), (1, some (.inr ((-1), (-1)))), (2, some (.inr (0, 8))), (3, some (.inr (8, 8)))], [], 8, [(-1)], [])] [(0, 2, 0)] 14 = true := by decide +kernel
theorem oks_70 (hl0 : l.1.stackTraces = false) (hA : ∀ e ∈ ctA, cOk l pg RRS SHF e) : ∀ e ∈ cts_70, cOk l pg RRS SHF e := List.forall_mem_cons.mpr ⟨meth_ok pg_ok mtL_ok hl0 (oks_69 hl0 hA) ⟨by decide +kernel, by decide +kernel, by decide +kernel⟩ (by decide +kernel) cks_70, (oks_69 hl0 hA)⟩
/-- Spans.measure -/
def ens_71 : cE := (14, [some (.inl (.ref 30)), some (.inl (.ref 17))], [], ([31, 32], []), [(none, [])], [], 0, 0)
def cts_71 : List cE := ens_71 :: cts_70
set_option maxRecDepth 100000 in
theorem cks_71 : mC pg RRS SHF mtL cts_70 ens_71 [(16, [(0, some (.inl (.ref 30))), (1, some (.inl (.ref 17))), (2, some (.inr (0, 8)))], [], 1169, [(-130), 0], []), (38, [(0, some (.inl (.ref 30))), (1, some (.inl (.ref 17))), (2, some (.inr (0, 7))), (3, some (.inr (0, 2139095040))), (4, some (.inr (1, 128))), (5, some (.inr (0, 128)))], [], 1168, [(-130), (-1)], [])] [(0, 2, 0), (0, 5, 0)] 54 = true := by decide +kernel
theorem oks_71 (hl0 : l.1.stackTraces = false) (hA : ∀ e ∈ ctA, cOk l pg RRS SHF e) : ∀ e ∈ cts_71, cOk l pg RRS SHF e := List.forall_mem_cons.mpr ⟨meth_ok pg_ok mtL_ok hl0 (oks_70 hl0 hA) ⟨by decide +kernel, by decide +kernel, by decide +kernel⟩ (by decide +kernel) cks_71, (oks_70 hl0 hA)⟩
/-- Arrays.fill -/
def ens_72 : cE := (17, [some (.inl (.ref 34)), none], [], ([], []), [(none, [])], [], 0, 0)
def cts_72 : List cE := ens_72 :: cts_71
set_option maxRecDepth 100000 in
theorem cks_72 : mC pg RRS SHF mtL cts_71 ens_72 [(6, [(0, some (.inl (.ref 34))), (1, none), (3, some (.inr (0, 256))), (4, some (.inr (256, 256)))], [], 256, [(-1)], [])] [(0, 3, 0)] 14 = true := by decide +kernel
theorem oks_72 (hl0 : l.1.stackTraces = false) (hA : ∀ e ∈ ctA, cOk l pg RRS SHF e) : ∀ e ∈ cts_72, cOk l pg RRS SHF e := List.forall_mem_cons.mpr ⟨meth_ok pg_ok mtL_ok hl0 (oks_71 hl0 hA) ⟨by decide +kernel, by decide +kernel, by decide +kernel⟩ (by decide +kernel) cks_72, (oks_71 hl0 hA)⟩
/-- Lefts.withHelp -/
def ens_73 : cE := (19, [some (.inl (.ref 33)), some (.inl (.ref 30)), some (.inr (0, 255)), some (.inr (0, 255)), some (.inr (0, 24))], [], ([], []), [(some (none), [])], [], 0, 0)
def cts_73 : List cE := ens_73 :: cts_72
set_option maxRecDepth 100000 in
theorem cks_73 : mC pg RRS SHF mtL cts_72 ens_73 [(17, [(0, some (.inl (.ref 33))), (1, some (.inl (.ref 30))), (2, some (.inr (0, 255))), (3, some (.inr (0, 255))), (4, some (.inr (0, 24))), (5, some (.inr (0, 255))), (6, none), (8, some (.inr (0, 255)))], [], 0, [1], [])] [(0, 8, 0)] 29 = true := by decide +kernel
theorem oks_73 (hl0 : l.1.stackTraces = false) (hA : ∀ e ∈ ctA, cOk l pg RRS SHF e) : ∀ e ∈ cts_73, cOk l pg RRS SHF e := List.forall_mem_cons.mpr ⟨meth_ok pg_ok mtL_ok hl0 (oks_72 hl0 hA) ⟨by decide +kernel, by decide +kernel, by decide +kernel⟩ (by decide +kernel) cks_73, (oks_72 hl0 hA)⟩
/-- Lefts.fill -/
def ens_74 : cE := (16, [some (.inl (.ref 33)), some (.inl (.ref 17)), some (.inl (.ref 30)), some (.inl (.ref 20))], [], ([], []), [(none, [])], [], 0, 0)
def cts_74 : List cE := ens_74 :: cts_73
set_option maxRecDepth 100000 in
theorem cks_74 : mC pg RRS SHF mtL cts_73 ens_74 [(18, [(0, some (.inl (.ref 33))), (1, some (.inl (.ref 17))), (2, some (.inl (.ref 30))), (3, some (.inl (.ref 20))), (4, some (.inr (0, 6)))], [], 1805, [(-258), 0], []), (33, [(0, some (.inl (.ref 33))), (1, some (.inl (.ref 17))), (2, some (.inl (.ref 30))), (3, some (.inl (.ref 20))), (4, some (.inr (0, 5))), (5, some (.inr ((-1), 255)))], [], 1549, [(-258), 1], [])] [(0, 4, 0), (0, 5, 0)] 33 = true := by decide +kernel
theorem oks_74 (hl0 : l.1.stackTraces = false) (hA : ∀ e ∈ ctA, cOk l pg RRS SHF e) : ∀ e ∈ cts_74, cOk l pg RRS SHF e := List.forall_mem_cons.mpr ⟨meth_ok pg_ok mtL_ok hl0 (oks_73 hl0 hA) ⟨by decide +kernel, by decide +kernel, by decide +kernel⟩ (by decide +kernel) cks_74, (oks_73 hl0 hA)⟩
/-- Arrays.fill -/
def ens_75 : cE := (17, [some (.inl (.ref 35)), none], [], ([], []), [(none, [])], [], 0, 0)
def cts_75 : List cE := ens_75 :: cts_74
set_option maxRecDepth 100000 in
theorem cks_75 : mC pg RRS SHF mtL cts_74 ens_75 [(6, [(0, some (.inl (.ref 35))), (1, none), (3, some (.inr (0, 9))), (4, some (.inr (9, 9)))], [], 9, [(-1)], [])] [(0, 3, 0)] 14 = true := by decide +kernel
theorem oks_75 (hl0 : l.1.stackTraces = false) (hA : ∀ e ∈ ctA, cOk l pg RRS SHF e) : ∀ e ∈ cts_75, cOk l pg RRS SHF e := List.forall_mem_cons.mpr ⟨meth_ok pg_ok mtL_ok hl0 (oks_74 hl0 hA) ⟨by decide +kernel, by decide +kernel, by decide +kernel⟩ (by decide +kernel) cks_75, (oks_74 hl0 hA)⟩
/-- Lefts.sortByNumber -/
def ens_76 : cE := (20, [some (.inl (.ref 33)), some (.inl (.ref 17))], [], ([], []), [(none, [])], [], 0, 0)
def cts_76 : List cE := ens_76 :: cts_75
set_option maxRecDepth 100000 in
theorem cks_76 : mC pg RRS SHF mtL cts_75 ens_76 [(10, [(0, some (.inl (.ref 33))), (1, some (.inl (.ref 17))), (2, some (.inr (0, 256)))], [], 256, [(-1)], [])] [(0, 2, 0)] 23 = true := by decide +kernel
theorem oks_76 (hl0 : l.1.stackTraces = false) (hA : ∀ e ∈ ctA, cOk l pg RRS SHF e) : ∀ e ∈ cts_76, cOk l pg RRS SHF e := List.forall_mem_cons.mpr ⟨meth_ok pg_ok mtL_ok hl0 (oks_75 hl0 hA) ⟨by decide +kernel, by decide +kernel, by decide +kernel⟩ (by decide +kernel) cks_76, (oks_75 hl0 hA)⟩
/-- FullHouse.settle -/
def ens_77 : cE := (11, [some (.inl (.ref 0))], [], ([31, 32, 48], [(0, 9), (40, 2), (40, 3), (45, 2), (49, 0), (49, 1), (53, 0), (53, 1)]), [(none, [])], [], 0, 0)
def cts_77 : List cE := ens_77 :: cts_76
set_option maxRecDepth 100000 in
theorem cks_77 : mC pg RRS SHF mtL cts_76 ens_77 [] [] 48 = true := by decide +kernel
theorem oks_77 (hl0 : l.1.stackTraces = false) (hA : ∀ e ∈ ctA, cOk l pg RRS SHF e) : ∀ e ∈ cts_77, cOk l pg RRS SHF e := List.forall_mem_cons.mpr ⟨meth_ok pg_ok mtL_ok hl0 (oks_76 hl0 hA) ⟨by decide +kernel, by decide +kernel, by decide +kernel⟩ (by decide +kernel) cks_77, (oks_76 hl0 hA)⟩
/-- FullHouseModel.steps -/
def ens_78 : cE := (176, [some (.inl (.ref 58))], [(58, 17, (0, 800))], ([], [(58, 17), (58, 18), (58, 19), (58, 20), (58, 21)]), [(none, [(58, 18, (0, 0), none), (58, 17, (0, 800), some (0, 800))]), (none, [(58, 18, (1, 4), none), (58, 17, (0, 800), some (1, 800))])], [], 0, 0)
def cts_78 : List cE := ens_78 :: cts_77
set_option maxRecDepth 100000 in
theorem cks_78 : mC pg RRS SHF mtL cts_77 ens_78 [(0, [(0, some (.inl (.ref 58)))], [(58, 16, (1, 800), none), (58, 17, (1, 800), some (1, 800)), (58, 19, (0, 800), none), (58, 21, (0, 9999), none)], 2400, [(-1)], []), (164, [(0, some (.inl (.ref 58))), (1, some (.inr (97, 122)))], [(58, 16, (1, 800), none), (58, 17, (1, 800), some (1, 800)), (58, 19, (0, 799), none), (58, 21, (0, 0), none)], 1600, [(-1)], []), (242, [(0, some (.inl (.ref 58))), (1, some (.inr (48, 57)))], [(58, 16, (1, 800), none), (58, 17, (1, 800), some (1, 800)), (58, 19, (0, 799), none), (58, 21, (0, 9), none)], 800, [(-1)], [((1, 58, 17), (1, 58, 19), 1, 1)]), (242, [(0, some (.inl (.ref 58))), (1, some (.inr (48, 57)))], [(58, 16, (2, 800), none), (58, 17, (2, 800), some (2, 800)), (58, 19, (0, 798), none), (58, 21, (0, 99), none)], 800, [(-1)], [((1, 58, 17), (1, 58, 19), 2, 2)]), (242, [(0, some (.inl (.ref 58))), (1, some (.inr (48, 57)))], [(58, 16, (3, 800), none), (58, 17, (3, 800), some (3, 800)), (58, 19, (0, 797), none), (58, 21, (0, 999), none)], 800, [(-1)], [((1, 58, 17), (1, 58, 19), 3, 3)]), (242, [(0, some (.inl (.ref 58))), (1, some (.inr (48, 57)))], [(58, 16, (4, 800), none), (58, 17, (4, 800), some (4, 800)), (58, 19, (0, 796), none), (58, 21, (0, 9999), none)], 800, [(-1)], [((1, 58, 17), (1, 58, 19), 4, 800)])] [(1, 58, 17)] 80 = true := by decide +kernel
theorem oks_78 (hl0 : l.1.stackTraces = false) (hA : ∀ e ∈ ctA, cOk l pg RRS SHF e) : ∀ e ∈ cts_78, cOk l pg RRS SHF e := List.forall_mem_cons.mpr ⟨meth_ok pg_ok mtL_ok hl0 (oks_77 hl0 hA) ⟨by decide +kernel, by decide +kernel, by decide +kernel⟩ (by decide +kernel) cks_78, (oks_77 hl0 hA)⟩
/-- FullHouseModel.readsPerson -/
def ens_79 : cE := (184, [some (.inl (.ref 58))], [(58, 17, (0, 800)), (58, 13, (0, 5))], ([67, 68, 71], [(58, 13), (58, 14), (58, 17), (58, 18), (58, 19), (58, 20), (58, 21), (58, 23), (58, 27)]), [(none, [(58, 13, (1, 5), none), (58, 17, (0, 800), some (0, 800))]), (none, [(58, 13, (0, 0), none), (58, 17, (0, 800), some (1, 800))])], [], 0, 0)
def cts_79 : List cE := ens_79 :: cts_78
set_option maxRecDepth 100000 in
theorem cks_79 : mC pg RRS SHF mtL cts_78 ens_79 [(154, [(0, some (.inl (.ref 58))), (1, some (.inr (0, 8)))], [(58, 13, (0, 0), none), (58, 17, (1, 800), some (1, 800)), (58, 23, (0, 5), none)], 8, [(-1)], []), (154, [(0, some (.inl (.ref 58))), (1, some (.inr (0, 8)))], [(58, 13, (1, 5), none), (58, 17, (0, 800), some (0, 800)), (58, 23, (0, 5), none)], 8, [(-1)], [])] [(0, 1, 0)] 99 = true := by decide +kernel
theorem oks_79 (hl0 : l.1.stackTraces = false) (hA : ∀ e ∈ ctA, cOk l pg RRS SHF e) : ∀ e ∈ cts_79, cOk l pg RRS SHF e := List.forall_mem_cons.mpr ⟨meth_ok pg_ok mtL_ok hl0 (oks_78 hl0 hA) ⟨by decide +kernel, by decide +kernel, by decide +kernel⟩ (by decide +kernel) cks_79, (oks_78 hl0 hA)⟩
/-- FullHouseModel.readsWork -/
def ens_80 : cE := (187, [some (.inl (.ref 58))], [(58, 17, (0, 800)), (58, 13, (0, 5))], ([69, 70, 71], [(58, 13), (58, 14), (58, 17), (58, 18), (58, 19), (58, 20), (58, 21), (58, 24)]), [(none, [(58, 13, (1, 5), none), (58, 17, (0, 800), some (0, 800))]), (none, [(58, 13, (0, 0), none), (58, 17, (0, 800), some (1, 800))])], [], 0, 0)
def cts_80 : List cE := ens_80 :: cts_79
set_option maxRecDepth 100000 in
theorem cks_80 : mC pg RRS SHF mtL cts_79 ens_80 [(92, [(0, some (.inl (.ref 58))), (1, some (.inr (0, 6)))], [(58, 13, (0, 0), none), (58, 17, (2, 800), some (2, 800)), (58, 24, (0, 7), none)], 6, [(-1)], []), (92, [(0, some (.inl (.ref 58))), (1, some (.inr (0, 6)))], [(58, 13, (1, 2), none), (58, 17, (0, 800), some (0, 800)), (58, 24, (0, 7), none)], 6, [(-1)], [])] [(0, 1, 0)] 80 = true := by decide +kernel
theorem oks_80 (hl0 : l.1.stackTraces = false) (hA : ∀ e ∈ ctA, cOk l pg RRS SHF e) : ∀ e ∈ cts_80, cOk l pg RRS SHF e := List.forall_mem_cons.mpr ⟨meth_ok pg_ok mtL_ok hl0 (oks_79 hl0 hA) ⟨by decide +kernel, by decide +kernel, by decide +kernel⟩ (by decide +kernel) cks_80, (oks_79 hl0 hA)⟩
/-- FullHouseModel.readsCouple -/
def ens_81 : cE := (188, [some (.inl (.ref 58))], [(58, 17, (0, 800)), (58, 13, (0, 5))], ([], [(58, 13), (58, 14), (58, 17), (58, 18), (58, 19), (58, 20), (58, 21), (58, 35), (58, 36)]), [(none, [(58, 13, (1, 5), none), (58, 17, (0, 800), some (0, 800))]), (none, [(58, 13, (0, 0), none), (58, 17, (0, 800), some (1, 800)), (58, 35, (0, 5), none), (58, 36, (0, 7), none)])], [], 0, 0)
def cts_81 : List cE := ens_81 :: cts_80
set_option maxRecDepth 100000 in
theorem cks_81 : mC pg RRS SHF mtL cts_80 ens_81 [(77, [(0, some (.inl (.ref 58))), (1, some (.inr (0, 1))), (2, some (.inr (0, 8)))], [(58, 13, (0, 0), none), (58, 17, (2, 800), some (2, 800)), (58, 35, (0, 5), none), (58, 21, (0, 7), none)], 8, [(-1)], [])] [(0, 2, 0)] 55 = true := by decide +kernel
theorem oks_81 (hl0 : l.1.stackTraces = false) (hA : ∀ e ∈ ctA, cOk l pg RRS SHF e) : ∀ e ∈ cts_81, cOk l pg RRS SHF e := List.forall_mem_cons.mpr ⟨meth_ok pg_ok mtL_ok hl0 (oks_80 hl0 hA) ⟨by decide +kernel, by decide +kernel, by decide +kernel⟩ (by decide +kernel) cks_81, (oks_80 hl0 hA)⟩
/-- FullHouseModel.line -/
def ens_82 : cE := (181, [some (.inl (.ref 58))], [(58, 17, (0, 800)), (58, 13, (0, 5))], ([67, 68, 69, 70, 71, 72], [(58, 13), (58, 14), (58, 17), (58, 18), (58, 19), (58, 20), (58, 21), (58, 23), (58, 24), (58, 25), (58, 26), (58, 27), (58, 28), (58, 35), (58, 36)]), [(none, [(58, 13, (1, 5), none), (58, 17, (0, 800), some (0, 800))]), (none, [(58, 13, (0, 0), none), (58, 17, (0, 800), some (1, 800))])], [], 0, 0)
def cts_82 : List cE := ens_82 :: cts_81
set_option maxRecDepth 100000 in
theorem cks_82 : mC pg RRS SHF mtL cts_81 ens_82 [] [] 110 = true := by decide +kernel
theorem oks_82 (hl0 : l.1.stackTraces = false) (hA : ∀ e ∈ ctA, cOk l pg RRS SHF e) : ∀ e ∈ cts_82, cOk l pg RRS SHF e := List.forall_mem_cons.mpr ⟨meth_ok pg_ok mtL_ok hl0 (oks_81 hl0 hA) ⟨by decide +kernel, by decide +kernel, by decide +kernel⟩ (by decide +kernel) cks_82, (oks_81 hl0 hA)⟩
/-- FullHouseModel.lays -/
def ens_83 : cE := (173, [some (.inl (.ref 58)), some (.inr ((-2147483648), 2147483647))], [(58, 12, (0, 796))], ([65], [(58, 12)]), [(none, [(58, 12, (4, 800), some (4, 4))])], [], 0, 0)
def cts_83 : List cE := ens_83 :: cts_82
set_option maxRecDepth 100000 in
theorem cks_83 : mC pg RRS SHF mtL cts_82 ens_83 [] [] 90 = true := by decide +kernel
theorem oks_83 (hl0 : l.1.stackTraces = false) (hA : ∀ e ∈ ctA, cOk l pg RRS SHF e) : ∀ e ∈ cts_83, cOk l pg RRS SHF e := List.forall_mem_cons.mpr ⟨meth_ok pg_ok mtL_ok hl0 (oks_82 hl0 hA) ⟨by decide +kernel, by decide +kernel, by decide +kernel⟩ (by decide +kernel) cks_83, (oks_82 hl0 hA)⟩
/-- FullHouseModel.feed -/
def ens_84 : cE := (172, [some (.inl (.ref 58)), some (.inr ((-2147483648), 2147483647)), some (.inr ((-2147483648), 2147483647)), some (.inr ((-2147483648), 2147483647)), some (.inr ((-2147483648), 2147483647)), some (.inr ((-2147483648), 2147483647))], [], ([65], [(58, 0), (58, 12)]), [(some (some (.inr ((-1), 800))), [])], [], 0, 0)
def cts_84 : List cE := ens_84 :: cts_83
set_option maxRecDepth 100000 in
theorem cks_84 : mC pg RRS SHF mtL cts_83 ens_84 [] [] 32 = true := by decide +kernel
theorem oks_84 (hl0 : l.1.stackTraces = false) (hA : ∀ e ∈ ctA, cOk l pg RRS SHF e) : ∀ e ∈ cts_84, cOk l pg RRS SHF e := List.forall_mem_cons.mpr ⟨meth_ok pg_ok mtL_ok hl0 (oks_83 hl0 hA) ⟨by decide +kernel, by decide +kernel, by decide +kernel⟩ (by decide +kernel) cks_84, (oks_83 hl0 hA)⟩
/-- FullHouseModel.fault -/
def ens_85 : cE := (193, [some (.inl (.ref 58))], [], ([], [(58, 0)]), [(some (some (.inr ((-2147483648), 2147483647))), [])], [], 0, 0)
def cts_85 : List cE := ens_85 :: cts_84
set_option maxRecDepth 100000 in
theorem cks_85 : mC pg RRS SHF mtL cts_84 ens_85 [] [] 11 = true := by decide +kernel
theorem oks_85 (hl0 : l.1.stackTraces = false) (hA : ∀ e ∈ ctA, cOk l pg RRS SHF e) : ∀ e ∈ cts_85, cOk l pg RRS SHF e := List.forall_mem_cons.mpr ⟨meth_ok pg_ok mtL_ok hl0 (oks_84 hl0 hA) ⟨by decide +kernel, by decide +kernel, by decide +kernel⟩ (by decide +kernel) cks_85, (oks_84 hl0 hA)⟩
/-- FullHouseModel.count -/
def ens_86 : cE := (194, [some (.inl (.ref 58)), some (.inr ((-2147483648), 2147483647))], [], ([], [(58, 0)]), [(some (some (.inr ((-2147483648), 2147483647))), [])], [], 0, 0)
def cts_86 : List cE := ens_86 :: cts_85
set_option maxRecDepth 100000 in
theorem cks_86 : mC pg RRS SHF mtL cts_85 ens_86 [] [] 28 = true := by decide +kernel
theorem oks_86 (hl0 : l.1.stackTraces = false) (hA : ∀ e ∈ ctA, cOk l pg RRS SHF e) : ∀ e ∈ cts_86, cOk l pg RRS SHF e := List.forall_mem_cons.mpr ⟨meth_ok pg_ok mtL_ok hl0 (oks_85 hl0 hA) ⟨by decide +kernel, by decide +kernel, by decide +kernel⟩ (by decide +kernel) cks_86, (oks_85 hl0 hA)⟩
/-- FullHouseModel.person -/
def ens_87 : cE := (196, [some (.inl (.ref 58)), some (.inr ((-2147483648), 2147483647)), some (.inr ((-2147483648), 2147483647))], [], ([], [(58, 0)]), [(some (some (.inr ((-2147483648), 2147483647))), [])], [], 0, 0)
def cts_87 : List cE := ens_87 :: cts_86
set_option maxRecDepth 100000 in
theorem cks_87 : mC pg RRS SHF mtL cts_86 ens_87 [(59, [(0, some (.inl (.ref 58))), (1, some (.inr (0, 5))), (2, some (.inr (2, 2))), (3, some (.inr (0, 255))), (4, some (.inr (0, 8)))], [], 8, [(-1)], [])] [(0, 4, 0)] 34 = true := by decide +kernel
theorem oks_87 (hl0 : l.1.stackTraces = false) (hA : ∀ e ∈ ctA, cOk l pg RRS SHF e) : ∀ e ∈ cts_87, cOk l pg RRS SHF e := List.forall_mem_cons.mpr ⟨meth_ok pg_ok mtL_ok hl0 (oks_86 hl0 hA) ⟨by decide +kernel, by decide +kernel, by decide +kernel⟩ (by decide +kernel) cks_87, (oks_86 hl0 hA)⟩
/-- FullHouseModel.work -/
def ens_88 : cE := (198, [some (.inl (.ref 58)), some (.inr ((-2147483648), 2147483647)), some (.inr ((-2147483648), 2147483647))], [], ([], [(58, 0)]), [(some (some (.inr ((-2147483648), 2147483647))), [])], [], 0, 0)
def cts_88 : List cE := ens_88 :: cts_87
set_option maxRecDepth 100000 in
theorem cks_88 : mC pg RRS SHF mtL cts_87 ens_88 [(59, [(0, some (.inl (.ref 58))), (1, some (.inr (0, 7))), (2, some (.inr (2, 2))), (3, some (.inr (0, 63))), (4, some (.inr (0, 6)))], [], 6, [(-1)], [])] [(0, 4, 0)] 34 = true := by decide +kernel
theorem oks_88 (hl0 : l.1.stackTraces = false) (hA : ∀ e ∈ ctA, cOk l pg RRS SHF e) : ∀ e ∈ cts_88, cOk l pg RRS SHF e := List.forall_mem_cons.mpr ⟨meth_ok pg_ok mtL_ok hl0 (oks_87 hl0 hA) ⟨by decide +kernel, by decide +kernel, by decide +kernel⟩ (by decide +kernel) cks_88, (oks_87 hl0 hA)⟩
/-- FullHouseModel.skill -/
def ens_89 : cE := (200, [some (.inl (.ref 58)), some (.inr ((-2147483648), 2147483647)), some (.inr ((-2147483648), 2147483647))], [], ([], [(58, 0)]), [(some (some (.inr (0, 9999))), [])], [], 0, 0)
def cts_89 : List cE := ens_89 :: cts_88
set_option maxRecDepth 100000 in
theorem cks_89 : mC pg RRS SHF mtL cts_88 ens_89 [] [] 38 = true := by decide +kernel
theorem oks_89 (hl0 : l.1.stackTraces = false) (hA : ∀ e ∈ ctA, cOk l pg RRS SHF e) : ∀ e ∈ cts_89, cOk l pg RRS SHF e := List.forall_mem_cons.mpr ⟨meth_ok pg_ok mtL_ok hl0 (oks_88 hl0 hA) ⟨by decide +kernel, by decide +kernel, by decide +kernel⟩ (by decide +kernel) cks_89, (oks_88 hl0 hA)⟩
/-- FullHouseModel.teaching -/
def ens_90 : cE := (201, [some (.inl (.ref 58)), some (.inr ((-2147483648), 2147483647)), some (.inr ((-2147483648), 2147483647))], [], ([], [(58, 0)]), [(some (some (.inr ((-2147483648), 2147483647))), [])], [], 0, 0)
def cts_90 : List cE := ens_90 :: cts_89
set_option maxRecDepth 100000 in
theorem cks_90 : mC pg RRS SHF mtL cts_89 ens_90 [] [] 36 = true := by decide +kernel
theorem oks_90 (hl0 : l.1.stackTraces = false) (hA : ∀ e ∈ ctA, cOk l pg RRS SHF e) : ∀ e ∈ cts_90, cOk l pg RRS SHF e := List.forall_mem_cons.mpr ⟨meth_ok pg_ok mtL_ok hl0 (oks_89 hl0 hA) ⟨by decide +kernel, by decide +kernel, by decide +kernel⟩ (by decide +kernel) cks_90, (oks_89 hl0 hA)⟩
/-- FullHouseModel.fits -/
def ens_91 : cE := (206, [some (.inl (.ref 58)), some (.inr (0, 255)), some (.inr ((-2147483648), 2147483647))], [], ([], []), [(some (some (.inr (0, 1))), [])], [], 0, 0)
def cts_91 : List cE := ens_91 :: cts_90
set_option maxRecDepth 100000 in
theorem cks_91 : mC pg RRS SHF mtL cts_90 ens_91 [(5, [(0, some (.inl (.ref 58))), (1, some (.inr (0, 255))), (2, some (.inr ((-2147483648), 2147483647))), (3, some (.inr ((-2147483648), 2147483647))), (4, some (.inr (0, 8)))], [], 80, [(-9), 0], []), (39, [(0, some (.inl (.ref 58))), (1, some (.inr (0, 255))), (2, some (.inr ((-2147483648), 2147483647))), (3, some (.inr ((-2147483648), 2147483647))), (4, some (.inr (0, 7))), (5, some (.inr (0, 7)))], [], 79, [(-9), (-1)], [])] [(0, 4, 0), (0, 5, 0)] 50 = true := by decide +kernel
theorem oks_91 (hl0 : l.1.stackTraces = false) (hA : ∀ e ∈ ctA, cOk l pg RRS SHF e) : ∀ e ∈ cts_91, cOk l pg RRS SHF e := List.forall_mem_cons.mpr ⟨meth_ok pg_ok mtL_ok hl0 (oks_90 hl0 hA) ⟨by decide +kernel, by decide +kernel, by decide +kernel⟩ (by decide +kernel) cks_91, (oks_90 hl0 hA)⟩
/-- FullHouseModel.listsOf -/
def ens_92 : cE := (205, [some (.inl (.ref 58)), some (.inr (0, 0)), some (.inr (0, 255))], [], ([73, 74], []), [(none, [])], [], 0, 0)
def cts_92 : List cE := ens_92 :: cts_91
set_option maxRecDepth 100000 in
theorem cks_92 : mC pg RRS SHF mtL cts_91 ens_92 [(9, [(0, some (.inl (.ref 58))), (1, some (.inr (0, 0))), (2, some (.inr (0, 255))), (3, some (.inr (0, 256)))], [(74, 0, (0, 256), none)], 256, [(-1)], [((1, 74, 0), (0, 3, 0), (-256), 0)])] [(0, 3, 0)] 47 = true := by decide +kernel
theorem oks_92 (hl0 : l.1.stackTraces = false) (hA : ∀ e ∈ ctA, cOk l pg RRS SHF e) : ∀ e ∈ cts_92, cOk l pg RRS SHF e := List.forall_mem_cons.mpr ⟨meth_ok pg_ok mtL_ok hl0 (oks_91 hl0 hA) ⟨by decide +kernel, by decide +kernel, by decide +kernel⟩ (by decide +kernel) cks_92, (oks_91 hl0 hA)⟩
/-- FullHouseModel.listsOf -/
def ens_93 : cE := (205, [some (.inl (.ref 58)), some (.inr (1, 1)), some (.inr (0, 255))], [], ([73, 74], []), [(none, [])], [], 0, 0)
def cts_93 : List cE := ens_93 :: cts_92
set_option maxRecDepth 100000 in
theorem cks_93 : mC pg RRS SHF mtL cts_92 ens_93 [(9, [(0, some (.inl (.ref 58))), (1, some (.inr (1, 1))), (2, some (.inr (0, 255))), (3, some (.inr (0, 256)))], [(74, 1, (0, 256), none)], 256, [(-1)], [((1, 74, 1), (0, 3, 0), (-256), 0)])] [(0, 3, 0)] 47 = true := by decide +kernel
theorem oks_93 (hl0 : l.1.stackTraces = false) (hA : ∀ e ∈ ctA, cOk l pg RRS SHF e) : ∀ e ∈ cts_93, cOk l pg RRS SHF e := List.forall_mem_cons.mpr ⟨meth_ok pg_ok mtL_ok hl0 (oks_92 hl0 hA) ⟨by decide +kernel, by decide +kernel, by decide +kernel⟩ (by decide +kernel) cks_93, (oks_92 hl0 hA)⟩
/-- FullHouseModel.listsOf -/
def ens_94 : cE := (205, [some (.inl (.ref 58)), some (.inr (2, 2)), some (.inr (0, 255))], [], ([73, 74], []), [(none, [])], [], 0, 0)
def cts_94 : List cE := ens_94 :: cts_93
set_option maxRecDepth 100000 in
theorem cks_94 : mC pg RRS SHF mtL cts_93 ens_94 [(9, [(0, some (.inl (.ref 58))), (1, some (.inr (2, 2))), (2, some (.inr (0, 255))), (3, some (.inr (0, 256)))], [(74, 2, (0, 256), none)], 256, [(-1)], [((1, 74, 2), (0, 3, 0), (-256), 0)])] [(0, 3, 0)] 47 = true := by decide +kernel
theorem oks_94 (hl0 : l.1.stackTraces = false) (hA : ∀ e ∈ ctA, cOk l pg RRS SHF e) : ∀ e ∈ cts_94, cOk l pg RRS SHF e := List.forall_mem_cons.mpr ⟨meth_ok pg_ok mtL_ok hl0 (oks_93 hl0 hA) ⟨by decide +kernel, by decide +kernel, by decide +kernel⟩ (by decide +kernel) cks_94, (oks_93 hl0 hA)⟩
/-- FullHouseModel.listsOf -/
def ens_95 : cE := (205, [some (.inl (.ref 58)), some (.inr (3, 3)), some (.inr (0, 255))], [], ([73, 74], []), [(none, [])], [], 0, 0)
def cts_95 : List cE := ens_95 :: cts_94
set_option maxRecDepth 100000 in
theorem cks_95 : mC pg RRS SHF mtL cts_94 ens_95 [(9, [(0, some (.inl (.ref 58))), (1, some (.inr (3, 3))), (2, some (.inr (0, 255))), (3, some (.inr (0, 256)))], [(74, 3, (0, 256), none)], 256, [(-1)], [((1, 74, 3), (0, 3, 0), (-256), 0)])] [(0, 3, 0)] 47 = true := by decide +kernel
theorem oks_95 (hl0 : l.1.stackTraces = false) (hA : ∀ e ∈ ctA, cOk l pg RRS SHF e) : ∀ e ∈ cts_95, cOk l pg RRS SHF e := List.forall_mem_cons.mpr ⟨meth_ok pg_ok mtL_ok hl0 (oks_94 hl0 hA) ⟨by decide +kernel, by decide +kernel, by decide +kernel⟩ (by decide +kernel) cks_95, (oks_94 hl0 hA)⟩
/-- FullHouseModel.listsOf -/
def ens_96 : cE := (205, [some (.inl (.ref 58)), some (.inr (4, 4)), some (.inr (0, 255))], [], ([73, 74], []), [(none, [])], [], 0, 0)
def cts_96 : List cE := ens_96 :: cts_95
set_option maxRecDepth 100000 in
theorem cks_96 : mC pg RRS SHF mtL cts_95 ens_96 [(9, [(0, some (.inl (.ref 58))), (1, some (.inr (4, 4))), (2, some (.inr (0, 255))), (3, some (.inr (0, 256)))], [(74, 4, (0, 256), none)], 256, [(-1)], [((1, 74, 4), (0, 3, 0), (-256), 0)])] [(0, 3, 0)] 47 = true := by decide +kernel
theorem oks_96 (hl0 : l.1.stackTraces = false) (hA : ∀ e ∈ ctA, cOk l pg RRS SHF e) : ∀ e ∈ cts_96, cOk l pg RRS SHF e := List.forall_mem_cons.mpr ⟨meth_ok pg_ok mtL_ok hl0 (oks_95 hl0 hA) ⟨by decide +kernel, by decide +kernel, by decide +kernel⟩ (by decide +kernel) cks_96, (oks_95 hl0 hA)⟩
/-- FullHouseModel.listsOf -/
def ens_97 : cE := (205, [some (.inl (.ref 58)), some (.inr (5, 5)), some (.inr (0, 255))], [], ([73, 74], []), [(none, [])], [], 0, 0)
def cts_97 : List cE := ens_97 :: cts_96
set_option maxRecDepth 100000 in
theorem cks_97 : mC pg RRS SHF mtL cts_96 ens_97 [(9, [(0, some (.inl (.ref 58))), (1, some (.inr (5, 5))), (2, some (.inr (0, 255))), (3, some (.inr (0, 256)))], [(74, 5, (0, 256), none)], 256, [(-1)], [((1, 74, 5), (0, 3, 0), (-256), 0)])] [(0, 3, 0)] 47 = true := by decide +kernel
theorem oks_97 (hl0 : l.1.stackTraces = false) (hA : ∀ e ∈ ctA, cOk l pg RRS SHF e) : ∀ e ∈ cts_97, cOk l pg RRS SHF e := List.forall_mem_cons.mpr ⟨meth_ok pg_ok mtL_ok hl0 (oks_96 hl0 hA) ⟨by decide +kernel, by decide +kernel, by decide +kernel⟩ (by decide +kernel) cks_97, (oks_96 hl0 hA)⟩
/-- FullHouseModel.listsAll -/
def ens_98 : cE := (204, [some (.inl (.ref 58)), some (.inr (0, 0))], [], ([73, 74, 75], []), [(none, [])], [], 0, 0)
def cts_98 : List cE := ens_98 :: cts_97
set_option maxRecDepth 100000 in
theorem cks_98 : mC pg RRS SHF mtL cts_97 ens_98 [(2, [(0, some (.inl (.ref 58))), (1, some (.inr (0, 0))), (2, some (.inr (0, 6)))], [], 132, [(-19), 0], []), (15, [(0, some (.inl (.ref 58))), (1, some (.inr (0, 0))), (2, some (.inr (0, 5))), (3, some (.inr (0, 255))), (4, some (.inr (0, 8)))], [], 131, [(-19), (-1)], []), (83, [(0, some (.inl (.ref 58))), (1, some (.inr (0, 0))), (2, some (.inr (0, 5))), (3, some (.inr (0, 255))), (4, some (.inr (0, 8)))], [], 122, [(-19), (-1)], [])] [(0, 2, 0), (0, 4, 0)] 43 = true := by decide +kernel
theorem oks_98 (hl0 : l.1.stackTraces = false) (hA : ∀ e ∈ ctA, cOk l pg RRS SHF e) : ∀ e ∈ cts_98, cOk l pg RRS SHF e := List.forall_mem_cons.mpr ⟨meth_ok pg_ok mtL_ok hl0 (oks_97 hl0 hA) ⟨by decide +kernel, by decide +kernel, by decide +kernel⟩ (by decide +kernel) cks_98, (oks_97 hl0 hA)⟩
/-- FullHouseModel.copies -/
def ens_99 : cE := (192, [some (.inl (.ref 58)), some (.inl (.ref 80)), some (.inl (.ref 79))], [], ([79], []), [(none, [])], [], 0, 0)
def cts_99 : List cE := ens_99 :: cts_98
set_option maxRecDepth 100000 in
theorem cks_99 : mC pg RRS SHF mtL cts_98 ens_99 [(2, [(0, some (.inl (.ref 58))), (1, some (.inl (.ref 80))), (2, some (.inl (.ref 79))), (3, some (.inr (0, 8)))], [], 8, [(-1)], [])] [(0, 3, 0)] 17 = true := by decide +kernel
theorem oks_99 (hl0 : l.1.stackTraces = false) (hA : ∀ e ∈ ctA, cOk l pg RRS SHF e) : ∀ e ∈ cts_99, cOk l pg RRS SHF e := List.forall_mem_cons.mpr ⟨meth_ok pg_ok mtL_ok hl0 (oks_98 hl0 hA) ⟨by decide +kernel, by decide +kernel, by decide +kernel⟩ (by decide +kernel) cks_99, (oks_98 hl0 hA)⟩
/-- FullHouseModel.day -/
def ens_100 : cE := (202, [some (.inl (.ref 58)), some (.inr ((-2147483648), 2147483647))], [], ([73, 74, 75, 76, 77, 78, 79, 80], [(58, 0), (58, 45), (58, 46)]), [(some (some (.inr ((-2147483648), 2147483647))), [])], [], 0, 0)
def cts_100 : List cE := ens_100 :: cts_99
set_option maxRecDepth 100000 in
theorem cks_100 : mC pg RRS SHF mtL cts_99 ens_100 [] [] 37 = true := by decide +kernel
theorem oks_100 (hl0 : l.1.stackTraces = false) (hA : ∀ e ∈ ctA, cOk l pg RRS SHF e) : ∀ e ∈ cts_100, cOk l pg RRS SHF e := List.forall_mem_cons.mpr ⟨meth_ok pg_ok mtL_ok hl0 (oks_99 hl0 hA) ⟨by decide +kernel, by decide +kernel, by decide +kernel⟩ (by decide +kernel) cks_100, (oks_99 hl0 hA)⟩
/-- FullHouseModel.does -/
def ens_101 : cE := (214, [some (.inl (.ref 58)), some (.inr ((-2147483648), 2147483647))], [], ([], [(58, 0)]), [(some (some (.inr (0, 5))), [])], [], 0, 0)
def cts_101 : List cE := ens_101 :: cts_100
set_option maxRecDepth 100000 in
theorem cks_101 : mC pg RRS SHF mtL cts_100 ens_101 [] [] 34 = true := by decide +kernel
theorem oks_101 (hl0 : l.1.stackTraces = false) (hA : ∀ e ∈ ctA, cOk l pg RRS SHF e) : ∀ e ∈ cts_101, cOk l pg RRS SHF e := List.forall_mem_cons.mpr ⟨meth_ok pg_ok mtL_ok hl0 (oks_100 hl0 hA) ⟨by decide +kernel, by decide +kernel, by decide +kernel⟩ (by decide +kernel) cks_101, (oks_100 hl0 hA)⟩
/-- FullHouseModel.frees -/
def ens_102 : cE := (210, [some (.inl (.ref 58))], [], ([76], []), [(none, [])], [], 0, 0)
def cts_102 : List cE := ens_102 :: cts_101
set_option maxRecDepth 100000 in
theorem cks_102 : mC pg RRS SHF mtL cts_101 ens_102 [(2, [(0, some (.inl (.ref 58))), (1, some (.inr (0, 8)))], [], 8, [(-1)], [])] [(0, 1, 0)] 15 = true := by decide +kernel
theorem oks_102 (hl0 : l.1.stackTraces = false) (hA : ∀ e ∈ ctA, cOk l pg RRS SHF e) : ∀ e ∈ cts_102, cOk l pg RRS SHF e := List.forall_mem_cons.mpr ⟨meth_ok pg_ok mtL_ok hl0 (oks_101 hl0 hA) ⟨by decide +kernel, by decide +kernel, by decide +kernel⟩ (by decide +kernel) cks_102, (oks_101 hl0 hA)⟩
/-- FullHouseModel.isFixed -/
def ens_103 : cE := (212, [some (.inl (.ref 58)), some (.inr (0, 5)), some (.inr (0, 255))], [], ([], []), [(some (some (.inr (0, 1))), [])], [], 0, 0)
def cts_103 : List cE := ens_103 :: cts_102
set_option maxRecDepth 100000 in
theorem cks_103 : mC pg RRS SHF mtL cts_102 ens_103 [(2, [(0, some (.inl (.ref 58))), (1, some (.inr (0, 5))), (2, some (.inr (0, 255))), (3, some (.inr (0, 8)))], [], 8, [(-1)], [])] [(0, 3, 0)] 37 = true := by decide +kernel
theorem oks_103 (hl0 : l.1.stackTraces = false) (hA : ∀ e ∈ ctA, cOk l pg RRS SHF e) : ∀ e ∈ cts_103, cOk l pg RRS SHF e := List.forall_mem_cons.mpr ⟨meth_ok pg_ok mtL_ok hl0 (oks_102 hl0 hA) ⟨by decide +kernel, by decide +kernel, by decide +kernel⟩ (by decide +kernel) cks_103, (oks_102 hl0 hA)⟩
/-- FullHouseModel.gains -/
def ens_104 : cE := (213, [some (.inl (.ref 58)), some (.inr (0, 5)), some (.inr (0, 255))], [], ([], []), [(some (some (.inr ((-2147483648), 2147483647))), [])], [], 0, 0)
def cts_104 : List cE := ens_104 :: cts_103
set_option maxRecDepth 100000 in
theorem cks_104 : mC pg RRS SHF mtL cts_103 ens_104 [(5, [(0, some (.inl (.ref 58))), (1, some (.inr (0, 5))), (2, some (.inr (0, 255))), (3, some (.inr ((-2147483648), 2147483647))), (4, some (.inr (0, 8)))], [], 8, [(-1)], [])] [(0, 4, 0)] 30 = true := by decide +kernel
theorem oks_104 (hl0 : l.1.stackTraces = false) (hA : ∀ e ∈ ctA, cOk l pg RRS SHF e) : ∀ e ∈ cts_104, cOk l pg RRS SHF e := List.forall_mem_cons.mpr ⟨meth_ok pg_ok mtL_ok hl0 (oks_103 hl0 hA) ⟨by decide +kernel, by decide +kernel, by decide +kernel⟩ (by decide +kernel) cks_104, (oks_103 hl0 hA)⟩
/-- FullHouseModel.copies -/
def ens_105 : cE := (192, [some (.inl (.ref 58)), some (.inl (.ref 78)), some (.inl (.ref 77))], [], ([77], []), [(none, [])], [], 0, 0)
def cts_105 : List cE := ens_105 :: cts_104
set_option maxRecDepth 100000 in
theorem cks_105 : mC pg RRS SHF mtL cts_104 ens_105 [(2, [(0, some (.inl (.ref 58))), (1, some (.inl (.ref 78))), (2, some (.inl (.ref 77))), (3, some (.inr (0, 256)))], [], 256, [(-1)], [])] [(0, 3, 0)] 17 = true := by decide +kernel
theorem oks_105 (hl0 : l.1.stackTraces = false) (hA : ∀ e ∈ ctA, cOk l pg RRS SHF e) : ∀ e ∈ cts_105, cOk l pg RRS SHF e := List.forall_mem_cons.mpr ⟨meth_ok pg_ok mtL_ok hl0 (oks_104 hl0 hA) ⟨by decide +kernel, by decide +kernel, by decide +kernel⟩ (by decide +kernel) cks_105, (oks_104 hl0 hA)⟩
/-- FullHouseModel.fills -/
def ens_106 : cE := (211, [some (.inl (.ref 58)), some (.inr (0, 63))], [], ([77, 78], []), [(none, [])], [], 0, 0)
def cts_106 : List cE := ens_106 :: cts_105
set_option maxRecDepth 100000 in
theorem cks_106 : mC pg RRS SHF mtL cts_105 ens_106 [(2, [(0, some (.inl (.ref 58))), (1, some (.inr (0, 63))), (2, some (.inr (0, 256)))], [], 466204, [(-1), 0, 0], []), (35, [(0, some (.inl (.ref 58))), (1, some (.inr (0, 63))), (2, some (.inr (0, 6)))], [], 465947, [(-66564), 0, 0], []), (56, [(0, some (.inl (.ref 58))), (1, some (.inr (0, 63))), (2, some (.inr (0, 5))), (3, some (.inr (0, 256)))], [], 465946, [(-66564), (-1), 0], []), (81, [(0, some (.inl (.ref 58))), (1, some (.inr (0, 63))), (2, some (.inr (0, 5))), (3, some (.inr (0, 256)))], [], 465689, [(-66564), (-258), 0], []), (130, [(0, some (.inl (.ref 58))), (1, some (.inr (0, 63))), (2, some (.inr (0, 5))), (3, some (.inr (0, 255))), (4, some (.inr (0, 255))), (5, some (.inr ((-2147483648), 2147483647))), (6, some (.inr (0, 256)))], [], 465688, [(-66564), (-258), (-1)], [])] [(0, 2, 0), (0, 3, 0), (0, 6, 0)] 48 = true := by decide +kernel
theorem oks_106 (hl0 : l.1.stackTraces = false) (hA : ∀ e ∈ ctA, cOk l pg RRS SHF e) : ∀ e ∈ cts_106, cOk l pg RRS SHF e := List.forall_mem_cons.mpr ⟨meth_ok pg_ok mtL_ok hl0 (oks_105 hl0 hA) ⟨by decide +kernel, by decide +kernel, by decide +kernel⟩ (by decide +kernel) cks_106, (oks_105 hl0 hA)⟩
/-- FullHouseModel.bits -/
def ens_107 : cE := (217, [some (.inr (0, 255))], [], ([], []), [(some (some (.inr (0, 8))), [])], [], 0, 0)
def cts_107 : List cE := ens_107 :: cts_106
set_option maxRecDepth 100000 in
theorem cks_107 : mC pg RRS SHF mtL cts_106 ens_107 [] [] 118 = true := by decide +kernel
theorem oks_107 (hl0 : l.1.stackTraces = false) (hA : ∀ e ∈ ctA, cOk l pg RRS SHF e) : ∀ e ∈ cts_107, cOk l pg RRS SHF e := List.forall_mem_cons.mpr ⟨meth_ok pg_ok mtL_ok hl0 (oks_106 hl0 hA) ⟨by decide +kernel, by decide +kernel, by decide +kernel⟩ (by decide +kernel) cks_107, (oks_106 hl0 hA)⟩
/-- FullHouseModel.mostOf -/
def ens_108 : cE := (216, [some (.inl (.ref 58)), some (.inr (0, 63))], [], ([76, 77, 78], []), [(some (some (.inr (0, 8))), [])], [], 0, 0)
def cts_108 : List cE := ens_108 :: cts_107
set_option maxRecDepth 100000 in
theorem cks_108 : mC pg RRS SHF mtL cts_107 ens_108 [(13, [(0, some (.inl (.ref 58))), (1, some (.inr (0, 63))), (2, some (.inr (0, 8))), (3, some (.inr (0, 256)))], [], 256, [(-1)], [])] [(0, 3, 0)] 27 = true := by decide +kernel
theorem oks_108 (hl0 : l.1.stackTraces = false) (hA : ∀ e ∈ ctA, cOk l pg RRS SHF e) : ∀ e ∈ cts_108, cOk l pg RRS SHF e := List.forall_mem_cons.mpr ⟨meth_ok pg_ok mtL_ok hl0 (oks_107 hl0 hA) ⟨by decide +kernel, by decide +kernel, by decide +kernel⟩ (by decide +kernel) cks_108, (oks_107 hl0 hA)⟩
/-- FullHouseModel.most -/
def ens_109 : cE := (215, [some (.inl (.ref 58)), some (.inr ((-2147483648), 2147483647))], [], ([73, 74, 75, 76, 77, 78], [(58, 0)]), [(some (some (.inr (0, 8))), [])], [], 0, 0)
def cts_109 : List cE := ens_109 :: cts_108
set_option maxRecDepth 100000 in
theorem cks_109 : mC pg RRS SHF mtL cts_108 ens_109 [] [] 37 = true := by decide +kernel
theorem oks_109 (hl0 : l.1.stackTraces = false) (hA : ∀ e ∈ ctA, cOk l pg RRS SHF e) : ∀ e ∈ cts_109, cOk l pg RRS SHF e := List.forall_mem_cons.mpr ⟨meth_ok pg_ok mtL_ok hl0 (oks_108 hl0 hA) ⟨by decide +kernel, by decide +kernel, by decide +kernel⟩ (by decide +kernel) cks_109, (oks_108 hl0 hA)⟩
/-- FullHouseModel.bars -/
def ens_110 : cE := (218, [some (.inl (.ref 58)), some (.inr ((-2147483648), 2147483647))], [], ([73, 74, 75, 76, 77, 78], [(58, 0)]), [(some (some (.inr ((-1), 255))), [])], [], 0, 0)
def cts_110 : List cE := ens_110 :: cts_109
set_option maxRecDepth 100000 in
theorem cks_110 : mC pg RRS SHF mtL cts_109 ens_110 [(35, [(0, some (.inl (.ref 58))), (1, some (.inr (0, 63))), (2, some (.inr ((-1), 255))), (3, some (.inr (0, 256)))], [], 256, [(-1)], [])] [(0, 3, 0)] 38 = true := by decide +kernel
theorem oks_110 (hl0 : l.1.stackTraces = false) (hA : ∀ e ∈ ctA, cOk l pg RRS SHF e) : ∀ e ∈ cts_110, cOk l pg RRS SHF e := List.forall_mem_cons.mpr ⟨meth_ok pg_ok mtL_ok hl0 (oks_109 hl0 hA) ⟨by decide +kernel, by decide +kernel, by decide +kernel⟩ (by decide +kernel) cks_110, (oks_109 hl0 hA)⟩
/-- FullHouseModel.tell -/
def ens_111 : cE := (219, [some (.inl (.ref 58)), some (.inr ((-2147483648), 2147483647)), some (.inr ((-2147483648), 2147483647))], [], ([66, 81], [(58, 0)]), [(some (some (.inr (0, 1))), [])], [], 0, 0)
def cts_111 : List cE := ens_111 :: cts_110
set_option maxRecDepth 100000 in
theorem cks_111 : mC pg RRS SHF mtL cts_110 ens_111 [] [] 31 = true := by decide +kernel
theorem oks_111 (hl0 : l.1.stackTraces = false) (hA : ∀ e ∈ ctA, cOk l pg RRS SHF e) : ∀ e ∈ cts_111, cOk l pg RRS SHF e := List.forall_mem_cons.mpr ⟨meth_ok pg_ok mtL_ok hl0 (oks_110 hl0 hA) ⟨by decide +kernel, by decide +kernel, by decide +kernel⟩ (by decide +kernel) cks_111, (oks_110 hl0 hA)⟩
/-- FullHouseModel.troubleOf -/
def ens_112 : cE := (221, [some (.inl (.ref 58)), some (.inr (0, 7)), some (.inr (0, 63))], [], ([], []), [(some (some (.inr (0, 5))), [])], [], 0, 0)
def cts_112 : List cE := ens_112 :: cts_111
set_option maxRecDepth 100000 in
theorem cks_112 : mC pg RRS SHF mtL cts_111 ens_112 [(54, [(0, some (.inl (.ref 58))), (1, some (.inr (0, 7))), (2, some (.inr (0, 63))), (3, some (.inr (0, 5))), (4, some (.inr ((-2147483648), 2147483647))), (5, some (.inr (0, 1))), (6, some (.inr (0, 7)))], [], 7, [(-1)], [])] [(0, 6, 0)] 58 = true := by decide +kernel
theorem oks_112 (hl0 : l.1.stackTraces = false) (hA : ∀ e ∈ ctA, cOk l pg RRS SHF e) : ∀ e ∈ cts_112, cOk l pg RRS SHF e := List.forall_mem_cons.mpr ⟨meth_ok pg_ok mtL_ok hl0 (oks_111 hl0 hA) ⟨by decide +kernel, by decide +kernel, by decide +kernel⟩ (by decide +kernel) cks_112, (oks_111 hl0 hA)⟩
/-- FullHouseModel.judge -/
def ens_113 : cE := (220, [some (.inl (.ref 58)), some (.inr ((-2147483648), 2147483647))], [], ([], [(58, 0)]), [(some (some (.inr ((-1), 75))), [])], [], 0, 0)
def cts_113 : List cE := ens_113 :: cts_112
set_option maxRecDepth 100000 in
theorem cks_113 : mC pg RRS SHF mtL cts_112 ens_113 [(18, [(0, some (.inl (.ref 58))), (1, some (.inr (0, 63))), (2, some (.inr (0, 8)))], [], 8, [(-1)], [])] [(0, 2, 0)] 37 = true := by decide +kernel
theorem oks_113 (hl0 : l.1.stackTraces = false) (hA : ∀ e ∈ ctA, cOk l pg RRS SHF e) : ∀ e ∈ cts_113, cOk l pg RRS SHF e := List.forall_mem_cons.mpr ⟨meth_ok pg_ok mtL_ok hl0 (oks_112 hl0 hA) ⟨by decide +kernel, by decide +kernel, by decide +kernel⟩ (by decide +kernel) cks_113, (oks_112 hl0 hA)⟩
/-- FullHouseModel.holds -/
def ens_114 : cE := (223, [some (.inl (.ref 58)), some (.inr (1, 1))], [], ([76, 77, 78], []), [(some (some (.inr (0, 1))), [])], [], 0, 0)
def cts_114 : List cE := ens_114 :: cts_113
set_option maxRecDepth 100000 in
theorem cks_114 : mC pg RRS SHF mtL cts_113 ens_114 [(11, [(0, some (.inl (.ref 58))), (1, some (.inr (1, 1))), (2, some (.inr (0, 63))), (3, some (.inr (0, 6)))], [], 48, [(-7), 0], []), (50, [(0, some (.inl (.ref 58))), (1, some (.inr (1, 1))), (2, some (.inr (0, 63))), (3, some (.inr (0, 5))), (4, some (.inr (0, 5)))], [], 47, [(-7), (-1)], [])] [(0, 3, 0), (0, 4, 0)] 43 = true := by decide +kernel
theorem oks_114 (hl0 : l.1.stackTraces = false) (hA : ∀ e ∈ ctA, cOk l pg RRS SHF e) : ∀ e ∈ cts_114, cOk l pg RRS SHF e := List.forall_mem_cons.mpr ⟨meth_ok pg_ok mtL_ok hl0 (oks_113 hl0 hA) ⟨by decide +kernel, by decide +kernel, by decide +kernel⟩ (by decide +kernel) cks_114, (oks_113 hl0 hA)⟩
/-- FullHouseModel.holds -/
def ens_115 : cE := (223, [some (.inl (.ref 58)), some (.inr (0, 0))], [], ([76, 77, 78], []), [(some (some (.inr (0, 1))), [])], [], 0, 0)
def cts_115 : List cE := ens_115 :: cts_114
set_option maxRecDepth 100000 in
theorem cks_115 : mC pg RRS SHF mtL cts_114 ens_115 [(11, [(0, some (.inl (.ref 58))), (1, some (.inr (0, 0))), (2, some (.inr (0, 63))), (3, some (.inr (0, 6)))], [], 13, [(-2)], []), (50, [(0, some (.inl (.ref 58))), (1, some (.inr (0, 0))), (2, some (.inr (0, 63))), (3, some (.inr (0, 5))), (4, some (.inr (0, 0)))], [], 12, [(-2)], [])] [(0, 3, 0)] 39 = true := by decide +kernel
theorem oks_115 (hl0 : l.1.stackTraces = false) (hA : ∀ e ∈ ctA, cOk l pg RRS SHF e) : ∀ e ∈ cts_115, cOk l pg RRS SHF e := List.forall_mem_cons.mpr ⟨meth_ok pg_ok mtL_ok hl0 (oks_114 hl0 hA) ⟨by decide +kernel, by decide +kernel, by decide +kernel⟩ (by decide +kernel) cks_115, (oks_114 hl0 hA)⟩
/-- FullHouseModel.any -/
def ens_116 : cE := (222, [some (.inl (.ref 58)), some (.inr ((-2147483648), 2147483647))], [], ([73, 74, 75, 76, 77, 78], [(58, 0)]), [(some (some (.inr ((-2147483648), 2147483647))), [])], [], 0, 0)
def cts_116 : List cE := ens_116 :: cts_115
set_option maxRecDepth 100000 in
theorem cks_116 : mC pg RRS SHF mtL cts_115 ens_116 [(71, [(0, some (.inl (.ref 58))), (1, some (.inr (0, 1))), (2, some (.inr (0, 63))), (3, some (.inr (0, 63))), (4, some (.inr ((-2147483648), 2147483647))), (5, some (.inr (0, 6)))], [], 48, [(-7), 0], []), (109, [(0, some (.inl (.ref 58))), (1, some (.inr (0, 1))), (2, some (.inr (0, 63))), (3, some (.inr (0, 63))), (4, some (.inr ((-2147483648), 2147483647))), (5, some (.inr (0, 5))), (6, some (.inr (0, 5)))], [], 47, [(-7), (-1)], [])] [(0, 5, 0), (0, 6, 0)] 41 = true := by decide +kernel
theorem oks_116 (hl0 : l.1.stackTraces = false) (hA : ∀ e ∈ ctA, cOk l pg RRS SHF e) : ∀ e ∈ cts_116, cOk l pg RRS SHF e := List.forall_mem_cons.mpr ⟨meth_ok pg_ok mtL_ok hl0 (oks_115 hl0 hA) ⟨by decide +kernel, by decide +kernel, by decide +kernel⟩ (by decide +kernel) cks_116, (oks_115 hl0 hA)⟩
/-- FullHouseModel.more -/
def ens_117 : cE := (227, [some (.inl (.ref 58))], [], ([73, 74, 75, 76, 77, 78, 82], [(58, 0)]), [(some (some (.inr ((-1), 255))), [])], [], 0, 0)
def cts_117 : List cE := ens_117 :: cts_116
set_option maxRecDepth 100000 in
theorem cks_117 : mC pg RRS SHF mtL cts_116 ens_117 [(25, [(0, some (.inl (.ref 58))), (1, some (.inr (0, 255))), (2, some (.inr (0, 6)))], [], 466204, [(-258), 0, 0, 0], []), (53, [(0, some (.inl (.ref 58))), (1, some (.inr (0, 255))), (2, some (.inr (0, 5))), (3, some (.inr (0, 256)))], [], 466203, [(-258), (-1), 0, 0], []), (101, [(0, some (.inl (.ref 58))), (1, some (.inr (0, 255))), (2, some (.inr ((-1), 255))), (3, some (.inr (0, 256)))], [], 464398, [0, (-1807), 0, 0], []), (131, [(0, some (.inl (.ref 58))), (1, some (.inr (0, 255))), (2, some (.inr ((-1), 255))), (3, some (.inr (0, 255))), (4, some (.inr (0, 1))), (5, some (.inr (0, 6)))], [], 464397, [0, (-1807), (-258), 0], []), (151, [(0, some (.inl (.ref 58))), (1, some (.inr (0, 255))), (2, some (.inr ((-1), 255))), (3, some (.inr (0, 255))), (4, some (.inr (0, 1))), (5, some (.inr (0, 5))), (6, some (.inr (0, 256)))], [], 464396, [0, (-1807), (-258), (-1)], [])] [(0, 2, 0), (0, 3, 0), (0, 5, 0), (0, 6, 0)] 39 = true := by decide +kernel
theorem oks_117 (hl0 : l.1.stackTraces = false) (hA : ∀ e ∈ ctA, cOk l pg RRS SHF e) : ∀ e ∈ cts_117, cOk l pg RRS SHF e := List.forall_mem_cons.mpr ⟨meth_ok pg_ok mtL_ok hl0 (oks_116 hl0 hA) ⟨by decide +kernel, by decide +kernel, by decide +kernel⟩ (by decide +kernel) cks_117, (oks_116 hl0 hA)⟩
/-- FullHouseModel.sights -/
def ens_118 : cE := (231, [some (.inl (.ref 58))], [], ([73, 74, 75, 76, 77, 78, 80, 84], [(58, 46)]), [(none, [])], [], 0, 0)
def cts_118 : List cE := ens_118 :: cts_117
set_option maxRecDepth 100000 in
theorem cks_118 : mC pg RRS SHF mtL cts_117 ens_118 [(7, [(0, some (.inl (.ref 58))), (1, some (.inr (0, 7)))], [], 79, [(-10), 0], []), (48, [(0, some (.inl (.ref 58))), (1, some (.inr (0, 6))), (2, some (.inr (0, 1))), (3, some (.inr (0, 8)))], [], 78, [(-10), (-1)], [])] [(0, 1, 0), (0, 3, 0)] 33 = true := by decide +kernel
theorem oks_118 (hl0 : l.1.stackTraces = false) (hA : ∀ e ∈ ctA, cOk l pg RRS SHF e) : ∀ e ∈ cts_118, cOk l pg RRS SHF e := List.forall_mem_cons.mpr ⟨meth_ok pg_ok mtL_ok hl0 (oks_117 hl0 hA) ⟨by decide +kernel, by decide +kernel, by decide +kernel⟩ (by decide +kernel) cks_118, (oks_117 hl0 hA)⟩
/-- FullHouseModel.areLike -/
def ens_119 : cE := (233, [some (.inl (.ref 58)), some (.inr (0, 6)), some (.inr (0, 6)), some (.inr (0, 255))], [], ([], []), [(some (some (.inr (0, 1))), [])], [], 0, 0)
def cts_119 : List cE := ens_119 :: cts_118
set_option maxRecDepth 100000 in
theorem cks_119 : mC pg RRS SHF mtL cts_118 ens_119 [(3, [(0, some (.inl (.ref 58))), (1, some (.inr (0, 6))), (2, some (.inr (0, 6))), (3, some (.inr (0, 255))), (4, some (.inr (0, 8)))], [], 8, [(-1)], [])] [(0, 4, 0)] 35 = true := by decide +kernel
theorem oks_119 (hl0 : l.1.stackTraces = false) (hA : ∀ e ∈ ctA, cOk l pg RRS SHF e) : ∀ e ∈ cts_119, cOk l pg RRS SHF e := List.forall_mem_cons.mpr ⟨meth_ok pg_ok mtL_ok hl0 (oks_118 hl0 hA) ⟨by decide +kernel, by decide +kernel, by decide +kernel⟩ (by decide +kernel) cks_119, (oks_118 hl0 hA)⟩
/-- FullHouseModel.chanceOf -/
def ens_120 : cE := (234, [some (.inl (.ref 58)), some (.inr (0, 6))], [], ([], []), [(some (some (.inr ((-2147483648), 2147483647))), [])], [], 0, 0)
def cts_120 : List cE := ens_120 :: cts_119
set_option maxRecDepth 100000 in
theorem cks_120 : mC pg RRS SHF mtL cts_119 ens_120 [(21, [(0, some (.inl (.ref 58))), (1, some (.inr (0, 6))), (2, some (.inr ((-2147483648), 2147483647))), (3, some (.inr (0, 6)))], [], 6, [(-1)], [])] [(0, 3, 0)] 18 = true := by decide +kernel
theorem oks_120 (hl0 : l.1.stackTraces = false) (hA : ∀ e ∈ ctA, cOk l pg RRS SHF e) : ∀ e ∈ cts_120, cOk l pg RRS SHF e := List.forall_mem_cons.mpr ⟨meth_ok pg_ok mtL_ok hl0 (oks_119 hl0 hA) ⟨by decide +kernel, by decide +kernel, by decide +kernel⟩ (by decide +kernel) cks_120, (oks_119 hl0 hA)⟩
end CT
