section CT
variable {l : aL}
/-- FullHouseModel.guesses -/
def ens_121 : cE := (232, [some (.inl (.ref 58)), some (.inr (0, 255))], [], ([], []), [(some (some (.inr ((-2147483648), 2147483647))), [])], [], 0, 0)
def cts_121 : List cE := ens_121 :: cts_120
set_option maxRecDepth 100000 in
theorem cks_121 : mC pg RRS SHF mtL cts_120 ens_121 [(4, [(0, some (.inl (.ref 58))), (1, some (.inr (0, 255))), (2, some (.inr ((-2147483648), 2147483647))), (3, some (.inr (0, 7)))], [], 127, [(-16), 0, 0], []), (18, [(0, some (.inl (.ref 58))), (1, some (.inr (0, 255))), (2, some (.inr ((-2147483648), 2147483647))), (3, some (.inr (0, 6))), (4, some (.inr (0, 1))), (5, some (.inr (0, 6)))], [], 126, [(-16), (-1), 0], []), (67, [(0, some (.inl (.ref 58))), (1, some (.inr (0, 255))), (2, some (.inr ((-2147483648), 2147483647))), (3, some (.inr (0, 6))), (4, some (.inr (1, 1))), (5, some (.inr ((-2147483648), 2147483647))), (6, some (.inr (0, 7)))], [], 119, [(-16), 0, (-1)], [])] [(0, 3, 0), (0, 5, 0), (0, 6, 0)] 27 = true := by decide +kernel
theorem oks_121 (hl0 : l.1.stackTraces = false) (hA : ∀ e ∈ ctA, cOk l pg RRS SHF e) : ∀ e ∈ cts_121, cOk l pg RRS SHF e := List.forall_mem_cons.mpr ⟨meth_ok pg_ok mtL_ok hl0 (oks_120 hl0 hA) ⟨by decide +kernel, by decide +kernel, by decide +kernel⟩ (by decide +kernel) cks_121, (oks_120 hl0 hA)⟩
/-- FullHouseModel.looks -/
def ens_122 : cE := (230, [some (.inl (.ref 58)), some (.inr ((-2147483648), 2147483647))], [], ([73, 74, 75, 76, 77, 78, 80, 84], [(58, 0), (58, 46)]), [(some (some (.inr ((-2147483648), 2147483647))), [])], [], 0, 0)
def cts_122 : List cE := ens_122 :: cts_121
set_option maxRecDepth 100000 in
theorem cks_122 : mC pg RRS SHF mtL cts_121 ens_122 [] [] 33 = true := by decide +kernel
theorem oks_122 (hl0 : l.1.stackTraces = false) (hA : ∀ e ∈ ctA, cOk l pg RRS SHF e) : ∀ e ∈ cts_122, cOk l pg RRS SHF e := List.forall_mem_cons.mpr ⟨meth_ok pg_ok mtL_ok hl0 (oks_121 hl0 hA) ⟨by decide +kernel, by decide +kernel, by decide +kernel⟩ (by decide +kernel) cks_122, (oks_121 hl0 hA)⟩
/-- FullHouseModel.best -/
def ens_123 : cE := (235, [some (.inl (.ref 58)), some (.inr ((-2147483648), 2147483647))], [], ([73, 74, 75, 76, 77, 78, 80, 84], [(58, 0), (58, 46)]), [(some (some (.inr ((-1), 255))), [])], [], 0, 0)
def cts_123 : List cE := ens_123 :: cts_122
set_option maxRecDepth 100000 in
theorem cks_123 : mC pg RRS SHF mtL cts_122 ens_123 [(32, [(0, some (.inl (.ref 58))), (1, some (.inr (0, 8))), (2, some (.inr ((-1), 255))), (3, some (.inr (0, 256)))], [], 256, [(-1)], [])] [(0, 3, 0)] 29 = true := by decide +kernel
theorem oks_123 (hl0 : l.1.stackTraces = false) (hA : ∀ e ∈ ctA, cOk l pg RRS SHF e) : ∀ e ∈ cts_123, cOk l pg RRS SHF e := List.forall_mem_cons.mpr ⟨meth_ok pg_ok mtL_ok hl0 (oks_122 hl0 hA) ⟨by decide +kernel, by decide +kernel, by decide +kernel⟩ (by decide +kernel) cks_123, (oks_122 hl0 hA)⟩
/-- FullHouseModel.often -/
def ens_124 : cE := (236, [some (.inl (.ref 58)), some (.inr ((-2147483648), 2147483647)), some (.inr ((-2147483648), 2147483647))], [], ([], [(58, 0)]), [(some (some (.inr ((-1), 1000))), [])], [], 0, 0)
def cts_124 : List cE := ens_124 :: cts_123
set_option maxRecDepth 100000 in
theorem cks_124 : mC pg RRS SHF mtL cts_123 ens_124 [(46, [(0, some (.inl (.ref 58))), (1, some (.inr (0, 5))), (2, some (.inr (0, 1000))), (3, none), (5, some (.inr (0, 1001)))], [], 1001, [(-1)], [])] [(0, 5, 0)] 34 = true := by decide +kernel
theorem oks_124 (hl0 : l.1.stackTraces = false) (hA : ∀ e ∈ ctA, cOk l pg RRS SHF e) : ∀ e ∈ cts_124, cOk l pg RRS SHF e := List.forall_mem_cons.mpr ⟨meth_ok pg_ok mtL_ok hl0 (oks_123 hl0 hA) ⟨by decide +kernel, by decide +kernel, by decide +kernel⟩ (by decide +kernel) cks_124, (oks_123 hl0 hA)⟩
/-- FullHouseModel.seldom -/
def ens_125 : cE := (237, [some (.inl (.ref 58)), some (.inr ((-2147483648), 2147483647)), some (.inr ((-2147483648), 2147483647))], [], ([], [(58, 0)]), [(some (some (.inr ((-2147483648), 2147483647))), [])], [], 0, 0)
def cts_125 : List cE := ens_125 :: cts_124
set_option maxRecDepth 100000 in
theorem cks_125 : mC pg RRS SHF mtL cts_124 ens_125 [(38, [(0, some (.inl (.ref 58))), (1, some (.inr (0, 5))), (2, some (.inr (0, 5000))), (3, none), (5, some (.inr (0, 5000)))], [], 5000, [(-1)], [])] [(0, 5, 0)] 34 = true := by decide +kernel
theorem oks_125 (hl0 : l.1.stackTraces = false) (hA : ∀ e ∈ ctA, cOk l pg RRS SHF e) : ∀ e ∈ cts_125, cOk l pg RRS SHF e := List.forall_mem_cons.mpr ⟨meth_ok pg_ok mtL_ok hl0 (oks_124 hl0 hA) ⟨by decide +kernel, by decide +kernel, by decide +kernel⟩ (by decide +kernel) cks_125, (oks_124 hl0 hA)⟩
/-- FullHouseModel.begin -/
def ens_126 : cE := (238, [some (.inl (.ref 58)), some (.inr ((-2147483648), 2147483647))], [], ([85, 86], [(58, 0), (58, 51), (58, 52)]), [(none, [])], [], 0, 0)
def cts_126 : List cE := ens_126 :: cts_125
set_option maxRecDepth 100000 in
theorem cks_126 : mC pg RRS SHF mtL cts_125 ens_126 [(17, [(0, some (.inl (.ref 58))), (1, some (.inr ((-2147483648), 2147483647))), (2, some (.inr (0, 6)))], [], 132, [(-19), 0], []), (32, [(0, some (.inl (.ref 58))), (1, some (.inr ((-2147483648), 2147483647))), (2, some (.inr (0, 5))), (3, some (.inr (0, 8)))], [], 131, [(-19), (-1)], []), (86, [(0, some (.inl (.ref 58))), (1, some (.inr ((-2147483648), 2147483647))), (2, some (.inr (0, 5))), (3, some (.inr (0, 8)))], [], 122, [(-19), (-1)], [])] [(0, 2, 0), (0, 3, 0)] 35 = true := by decide +kernel
theorem oks_126 (hl0 : l.1.stackTraces = false) (hA : ∀ e ∈ ctA, cOk l pg RRS SHF e) : ∀ e ∈ cts_126, cOk l pg RRS SHF e := List.forall_mem_cons.mpr ⟨meth_ok pg_ok mtL_ok hl0 (oks_125 hl0 hA) ⟨by decide +kernel, by decide +kernel, by decide +kernel⟩ (by decide +kernel) cks_126, (oks_125 hl0 hA)⟩
/-- FullHouseModel.on -/
def ens_127 : cE := (239, [some (.inl (.ref 58)), some (.inr ((-2147483648), 2147483647))], [], ([66, 73, 74, 75, 76, 77, 78, 85, 86, 87, 88], [(58, 0), (58, 51), (58, 52)]), [(some (some (.inr ((-1), 200))), [])], [], 0, 0)
def cts_127 : List cE := ens_127 :: cts_126
set_option maxRecDepth 100000 in
theorem cks_127 : mC pg RRS SHF mtL cts_126 ens_127 [(56, [(0, some (.inl (.ref 58))), (1, some (.inr (0, 0))), (2, some (.inr (0, 0)))], [(58, 51, (0, 200), none)], 60, [(-1)], [((1, 58, 51), (0, 2, 0), 0, 200)]), (56, [(0, some (.inl (.ref 58))), (1, some (.inr (1, 1))), (2, some (.inr (0, 1)))], [(58, 51, (0, 200), none)], 60, [(-1)], [((1, 58, 51), (0, 2, 0), 0, 199)]), (56, [(0, some (.inl (.ref 58))), (1, some (.inr (2, 2))), (2, some (.inr (0, 2)))], [(58, 51, (0, 200), none)], 60, [(-1)], [((1, 58, 51), (0, 2, 0), 0, 198)]), (56, [(0, some (.inl (.ref 58))), (1, some (.inr (3, 3))), (2, some (.inr (0, 3)))], [(58, 51, (0, 200), none)], 60, [(-1)], [((1, 58, 51), (0, 2, 0), 0, 197)]), (56, [(0, some (.inl (.ref 58))), (1, some (.inr (4, 4))), (2, some (.inr (0, 4)))], [(58, 51, (0, 200), none)], 60, [(-1)], [((1, 58, 51), (0, 2, 0), 0, 196)]), (56, [(0, some (.inl (.ref 58))), (1, some (.inr (5, 5))), (2, some (.inr (0, 5)))], [(58, 51, (0, 200), none)], 60, [(-1)], [((1, 58, 51), (0, 2, 0), 0, 195)]), (56, [(0, some (.inl (.ref 58))), (1, some (.inr (6, 6))), (2, some (.inr (0, 6)))], [(58, 51, (0, 200), none)], 60, [(-1)], [((1, 58, 51), (0, 2, 0), 0, 194)]), (56, [(0, some (.inl (.ref 58))), (1, some (.inr (7, 7))), (2, some (.inr (0, 7)))], [(58, 51, (0, 200), none)], 60, [(-1)], [((1, 58, 51), (0, 2, 0), 0, 193)]), (56, [(0, some (.inl (.ref 58))), (1, some (.inr (8, 8))), (2, some (.inr (0, 8)))], [(58, 51, (0, 200), none)], 60, [(-1)], [((1, 58, 51), (0, 2, 0), 0, 192)]), (56, [(0, some (.inl (.ref 58))), (1, some (.inr (9, 9))), (2, some (.inr (0, 9)))], [(58, 51, (0, 200), none)], 60, [(-1)], [((1, 58, 51), (0, 2, 0), 0, 191)]), (56, [(0, some (.inl (.ref 58))), (1, some (.inr (10, 10))), (2, some (.inr (0, 15)))], [(58, 51, (0, 200), none)], 60, [(-1)], [((1, 58, 51), (0, 2, 0), 0, 190)]), (56, [(0, some (.inl (.ref 58))), (1, some (.inr (11, 11))), (2, some (.inr (0, 15)))], [(58, 51, (0, 200), none)], 60, [(-1)], [((1, 58, 51), (0, 2, 0), 0, 189)]), (56, [(0, some (.inl (.ref 58))), (1, some (.inr (12, 12))), (2, some (.inr (0, 15)))], [(58, 51, (0, 200), none)], 60, [(-1)], [((1, 58, 51), (0, 2, 0), 0, 188)]), (56, [(0, some (.inl (.ref 58))), (1, some (.inr (13, 13))), (2, some (.inr (0, 15)))], [(58, 51, (0, 200), none)], 60, [(-1)], [((1, 58, 51), (0, 2, 0), 0, 187)]), (56, [(0, some (.inl (.ref 58))), (1, some (.inr (14, 14))), (2, some (.inr (0, 15)))], [(58, 51, (0, 200), none)], 60, [(-1)], [((1, 58, 51), (0, 2, 0), 0, 186)]), (56, [(0, some (.inl (.ref 58))), (1, some (.inr (15, 15))), (2, some (.inr (0, 15)))], [(58, 51, (0, 200), none)], 60, [(-1)], [((1, 58, 51), (0, 2, 0), 0, 185)]), (56, [(0, some (.inl (.ref 58))), (1, some (.inr (16, 16))), (2, some (.inr (0, 22)))], [(58, 51, (0, 200), none)], 60, [(-1)], [((1, 58, 51), (0, 2, 0), 0, 184)]), (56, [(0, some (.inl (.ref 58))), (1, some (.inr (17, 17))), (2, some (.inr (0, 22)))], [(58, 51, (0, 200), none)], 60, [(-1)], [((1, 58, 51), (0, 2, 0), 0, 183)]), (56, [(0, some (.inl (.ref 58))), (1, some (.inr (18, 18))), (2, some (.inr (0, 22)))], [(58, 51, (0, 200), none)], 60, [(-1)], [((1, 58, 51), (0, 2, 0), 0, 182)]), (56, [(0, some (.inl (.ref 58))), (1, some (.inr (19, 19))), (2, some (.inr (0, 22)))], [(58, 51, (0, 200), none)], 60, [(-1)], [((1, 58, 51), (0, 2, 0), 0, 181)]), (56, [(0, some (.inl (.ref 58))), (1, some (.inr (20, 20))), (2, some (.inr (0, 22)))], [(58, 51, (0, 200), none)], 60, [(-1)], [((1, 58, 51), (0, 2, 0), 0, 180)]), (56, [(0, some (.inl (.ref 58))), (1, some (.inr (21, 21))), (2, some (.inr (0, 22)))], [(58, 51, (0, 200), none)], 60, [(-1)], [((1, 58, 51), (0, 2, 0), 0, 179)]), (56, [(0, some (.inl (.ref 58))), (1, some (.inr (22, 22))), (2, some (.inr (0, 22)))], [(58, 51, (0, 200), none)], 60, [(-1)], [((1, 58, 51), (0, 2, 0), 0, 178)]), (56, [(0, some (.inl (.ref 58))), (1, some (.inr (23, 23))), (2, some (.inr (0, 23)))], [(58, 51, (0, 200), none)], 60, [(-1)], [((1, 58, 51), (0, 2, 0), 0, 177)]), (56, [(0, some (.inl (.ref 58))), (1, some (.inr (24, 24))), (2, some (.inr (0, 24)))], [(58, 51, (0, 200), none)], 60, [(-1)], [((1, 58, 51), (0, 2, 0), 0, 176)]), (56, [(0, some (.inl (.ref 58))), (1, some (.inr (25, 25))), (2, some (.inr (0, 31)))], [(58, 51, (0, 200), none)], 60, [(-1)], [((1, 58, 51), (0, 2, 0), 0, 175)]), (56, [(0, some (.inl (.ref 58))), (1, some (.inr (26, 26))), (2, some (.inr (0, 31)))], [(58, 51, (0, 200), none)], 60, [(-1)], [((1, 58, 51), (0, 2, 0), 0, 174)]), (56, [(0, some (.inl (.ref 58))), (1, some (.inr (27, 27))), (2, some (.inr (0, 31)))], [(58, 51, (0, 200), none)], 60, [(-1)], [((1, 58, 51), (0, 2, 0), 0, 173)]), (56, [(0, some (.inl (.ref 58))), (1, some (.inr (28, 28))), (2, some (.inr (0, 31)))], [(58, 51, (0, 200), none)], 60, [(-1)], [((1, 58, 51), (0, 2, 0), 0, 172)]), (56, [(0, some (.inl (.ref 58))), (1, some (.inr (29, 29))), (2, some (.inr (0, 31)))], [(58, 51, (0, 200), none)], 60, [(-1)], [((1, 58, 51), (0, 2, 0), 0, 171)]), (56, [(0, some (.inl (.ref 58))), (1, some (.inr (30, 30))), (2, some (.inr (0, 31)))], [(58, 51, (0, 200), none)], 60, [(-1)], [((1, 58, 51), (0, 2, 0), 0, 170)]), (56, [(0, some (.inl (.ref 58))), (1, some (.inr (31, 31))), (2, some (.inr (0, 31)))], [(58, 51, (0, 200), none)], 60, [(-1)], [((1, 58, 51), (0, 2, 0), 0, 169)]), (56, [(0, some (.inl (.ref 58))), (1, some (.inr (32, 32))), (2, some (.inr (0, 32)))], [(58, 51, (0, 200), none)], 60, [(-1)], [((1, 58, 51), (0, 2, 0), 0, 168)]), (56, [(0, some (.inl (.ref 58))), (1, some (.inr (33, 33))), (2, some (.inr (0, 47)))], [(58, 51, (0, 200), none)], 60, [(-1)], [((1, 58, 51), (0, 2, 0), 0, 167)]), (56, [(0, some (.inl (.ref 58))), (1, some (.inr (34, 34))), (2, some (.inr (0, 47)))], [(58, 51, (0, 200), none)], 60, [(-1)], [((1, 58, 51), (0, 2, 0), 0, 166)]), (56, [(0, some (.inl (.ref 58))), (1, some (.inr (35, 35))), (2, some (.inr (0, 47)))], [(58, 51, (0, 200), none)], 60, [(-1)], [((1, 58, 51), (0, 2, 0), 0, 165)]), (56, [(0, some (.inl (.ref 58))), (1, some (.inr (36, 36))), (2, some (.inr (0, 47)))], [(58, 51, (0, 200), none)], 60, [(-1)], [((1, 58, 51), (0, 2, 0), 0, 164)]), (56, [(0, some (.inl (.ref 58))), (1, some (.inr (37, 37))), (2, some (.inr (0, 47)))], [(58, 51, (0, 200), none)], 60, [(-1)], [((1, 58, 51), (0, 2, 0), 0, 163)]), (56, [(0, some (.inl (.ref 58))), (1, some (.inr (38, 38))), (2, some (.inr (0, 47)))], [(58, 51, (0, 200), none)], 60, [(-1)], [((1, 58, 51), (0, 2, 0), 0, 162)]), (56, [(0, some (.inl (.ref 58))), (1, some (.inr (39, 39))), (2, some (.inr (0, 47)))], [(58, 51, (0, 200), none)], 60, [(-1)], [((1, 58, 51), (0, 2, 0), 0, 161)]), (56, [(0, some (.inl (.ref 58))), (1, some (.inr (40, 40))), (2, some (.inr (0, 47)))], [(58, 51, (0, 200), none)], 60, [(-1)], [((1, 58, 51), (0, 2, 0), 0, 160)]), (56, [(0, some (.inl (.ref 58))), (1, some (.inr (41, 41))), (2, some (.inr (0, 47)))], [(58, 51, (0, 200), none)], 60, [(-1)], [((1, 58, 51), (0, 2, 0), 0, 159)]), (56, [(0, some (.inl (.ref 58))), (1, some (.inr (42, 42))), (2, some (.inr (0, 47)))], [(58, 51, (0, 200), none)], 60, [(-1)], [((1, 58, 51), (0, 2, 0), 0, 158)]), (56, [(0, some (.inl (.ref 58))), (1, some (.inr (43, 43))), (2, some (.inr (0, 47)))], [(58, 51, (0, 200), none)], 60, [(-1)], [((1, 58, 51), (0, 2, 0), 0, 157)]), (56, [(0, some (.inl (.ref 58))), (1, some (.inr (44, 44))), (2, some (.inr (0, 47)))], [(58, 51, (0, 200), none)], 60, [(-1)], [((1, 58, 51), (0, 2, 0), 0, 156)]), (56, [(0, some (.inl (.ref 58))), (1, some (.inr (45, 45))), (2, some (.inr (0, 47)))], [(58, 51, (0, 200), none)], 60, [(-1)], [((1, 58, 51), (0, 2, 0), 0, 155)]), (56, [(0, some (.inl (.ref 58))), (1, some (.inr (46, 46))), (2, some (.inr (0, 47)))], [(58, 51, (0, 200), none)], 60, [(-1)], [((1, 58, 51), (0, 2, 0), 0, 154)]), (56, [(0, some (.inl (.ref 58))), (1, some (.inr (47, 47))), (2, some (.inr (0, 47)))], [(58, 51, (0, 200), none)], 60, [(-1)], [((1, 58, 51), (0, 2, 0), 0, 153)]), (56, [(0, some (.inl (.ref 58))), (1, some (.inr (48, 48))), (2, some (.inr (0, 48)))], [(58, 51, (0, 200), none)], 60, [(-1)], [((1, 58, 51), (0, 2, 0), 0, 152)]), (56, [(0, some (.inl (.ref 58))), (1, some (.inr (49, 49))), (2, some (.inr (0, 60)))], [(58, 51, (0, 200), none)], 60, [(-1)], [((1, 58, 51), (0, 2, 0), 0, 151)]), (56, [(0, some (.inl (.ref 58))), (1, some (.inr (50, 50))), (2, some (.inr (0, 60)))], [(58, 51, (0, 200), none)], 60, [(-1)], [((1, 58, 51), (0, 2, 0), 0, 150)]), (56, [(0, some (.inl (.ref 58))), (1, some (.inr (51, 51))), (2, some (.inr (0, 60)))], [(58, 51, (0, 200), none)], 60, [(-1)], [((1, 58, 51), (0, 2, 0), 0, 149)]), (56, [(0, some (.inl (.ref 58))), (1, some (.inr (52, 52))), (2, some (.inr (0, 60)))], [(58, 51, (0, 200), none)], 60, [(-1)], [((1, 58, 51), (0, 2, 0), 0, 148)]), (56, [(0, some (.inl (.ref 58))), (1, some (.inr (53, 53))), (2, some (.inr (0, 60)))], [(58, 51, (0, 200), none)], 60, [(-1)], [((1, 58, 51), (0, 2, 0), 0, 147)]), (56, [(0, some (.inl (.ref 58))), (1, some (.inr (54, 54))), (2, some (.inr (0, 60)))], [(58, 51, (0, 200), none)], 60, [(-1)], [((1, 58, 51), (0, 2, 0), 0, 146)]), (56, [(0, some (.inl (.ref 58))), (1, some (.inr (55, 55))), (2, some (.inr (0, 60)))], [(58, 51, (0, 200), none)], 60, [(-1)], [((1, 58, 51), (0, 2, 0), 0, 145)]), (56, [(0, some (.inl (.ref 58))), (1, some (.inr (56, 56))), (2, some (.inr (0, 60)))], [(58, 51, (0, 200), none)], 60, [(-1)], [((1, 58, 51), (0, 2, 0), 0, 144)]), (56, [(0, some (.inl (.ref 58))), (1, some (.inr (57, 57))), (2, some (.inr (0, 60)))], [(58, 51, (0, 200), none)], 60, [(-1)], [((1, 58, 51), (0, 2, 0), 0, 143)]), (56, [(0, some (.inl (.ref 58))), (1, some (.inr (58, 58))), (2, some (.inr (0, 60)))], [(58, 51, (0, 200), none)], 60, [(-1)], [((1, 58, 51), (0, 2, 0), 0, 142)]), (56, [(0, some (.inl (.ref 58))), (1, some (.inr (59, 59))), (2, some (.inr (0, 60)))], [(58, 51, (0, 200), none)], 60, [(-1)], [((1, 58, 51), (0, 2, 0), 0, 141)]), (56, [(0, some (.inl (.ref 58))), (1, some (.inr (60, 60))), (2, some (.inr (0, 60)))], [(58, 51, (0, 200), none)], 60, [(-1)], [((1, 58, 51), (0, 2, 0), 0, 140)])] [(0, 2, 0)] 37 = true := by decide +kernel
theorem oks_127 (hl0 : l.1.stackTraces = false) (hA : ∀ e ∈ ctA, cOk l pg RRS SHF e) : ∀ e ∈ cts_127, cOk l pg RRS SHF e := List.forall_mem_cons.mpr ⟨meth_ok pg_ok mtL_ok hl0 (oks_126 hl0 hA) ⟨by decide +kernel, by decide +kernel, by decide +kernel⟩ (by decide +kernel) cks_127, (oks_126 hl0 hA)⟩
/-- FullHouseModel.week -/
def ens_128 : cE := (244, [some (.inl (.ref 58)), some (.inr ((-2147483648), 2147483647)), some (.inr ((-2147483648), 2147483647))], [], ([], [(58, 0)]), [(some (some (.inr ((-2147483648), 2147483647))), [])], [], 0, 0)
def cts_128 : List cE := ens_128 :: cts_127
set_option maxRecDepth 100000 in
theorem cks_128 : mC pg RRS SHF mtL cts_127 ens_128 [(104, [(0, some (.inl (.ref 58))), (1, some (.inr (0, 199))), (2, some (.inr (1, 1))), (3, some (.inr ((-2147483648), 2147483647))), (4, some (.inr (0, 8)))], [], 8, [(-1)], [])] [(0, 4, 0)] 54 = true := by decide +kernel
theorem oks_128 (hl0 : l.1.stackTraces = false) (hA : ∀ e ∈ ctA, cOk l pg RRS SHF e) : ∀ e ∈ cts_128, cOk l pg RRS SHF e := List.forall_mem_cons.mpr ⟨meth_ok pg_ok mtL_ok hl0 (oks_127 hl0 hA) ⟨by decide +kernel, by decide +kernel, by decide +kernel⟩ (by decide +kernel) cks_128, (oks_127 hl0 hA)⟩
/-- FullHouseModel.knows -/
def ens_129 : cE := (245, [some (.inl (.ref 58)), some (.inr ((-2147483648), 2147483647))], [], ([], [(58, 0)]), [(some (some (.inr (0, 255))), [])], [], 0, 0)
def cts_129 : List cE := ens_129 :: cts_128
set_option maxRecDepth 100000 in
theorem cks_129 : mC pg RRS SHF mtL cts_128 ens_129 [] [] 34 = true := by decide +kernel
theorem oks_129 (hl0 : l.1.stackTraces = false) (hA : ∀ e ∈ ctA, cOk l pg RRS SHF e) : ∀ e ∈ cts_129, cOk l pg RRS SHF e := List.forall_mem_cons.mpr ⟨meth_ok pg_ok mtL_ok hl0 (oks_128 hl0 hA) ⟨by decide +kernel, by decide +kernel, by decide +kernel⟩ (by decide +kernel) cks_129, (oks_128 hl0 hA)⟩
/-- FullHouseModel.copies -/
def ens_130 : cE := (192, [some (.inl (.ref 58)), some (.inl (.ref 85)), some (.inl (.ref 89))], [], ([89], []), [(none, [])], [], 0, 0)
def cts_130 : List cE := ens_130 :: cts_129
set_option maxRecDepth 100000 in
theorem cks_130 : mC pg RRS SHF mtL cts_129 ens_130 [(2, [(0, some (.inl (.ref 58))), (1, some (.inl (.ref 85))), (2, some (.inl (.ref 89))), (3, some (.inr (0, 6)))], [], 6, [(-1)], [])] [(0, 3, 0)] 17 = true := by decide +kernel
theorem oks_130 (hl0 : l.1.stackTraces = false) (hA : ∀ e ∈ ctA, cOk l pg RRS SHF e) : ∀ e ∈ cts_130, cOk l pg RRS SHF e := List.forall_mem_cons.mpr ⟨meth_ok pg_ok mtL_ok hl0 (oks_129 hl0 hA) ⟨by decide +kernel, by decide +kernel, by decide +kernel⟩ (by decide +kernel) cks_130, (oks_129 hl0 hA)⟩
/-- FullHouseModel.copies -/
def ens_131 : cE := (192, [some (.inl (.ref 58)), some (.inl (.ref 86)), some (.inl (.ref 90))], [], ([90], []), [(none, [])], [], 0, 0)
def cts_131 : List cE := ens_131 :: cts_130
set_option maxRecDepth 100000 in
theorem cks_131 : mC pg RRS SHF mtL cts_130 ens_131 [(2, [(0, some (.inl (.ref 58))), (1, some (.inl (.ref 86))), (2, some (.inl (.ref 90))), (3, some (.inr (0, 48)))], [], 48, [(-1)], [])] [(0, 3, 0)] 17 = true := by decide +kernel
theorem oks_131 (hl0 : l.1.stackTraces = false) (hA : ∀ e ∈ ctA, cOk l pg RRS SHF e) : ∀ e ∈ cts_131, cOk l pg RRS SHF e := List.forall_mem_cons.mpr ⟨meth_ok pg_ok mtL_ok hl0 (oks_130 hl0 hA) ⟨by decide +kernel, by decide +kernel, by decide +kernel⟩ (by decide +kernel) cks_131, (oks_130 hl0 hA)⟩
/-- FullHouseModel.copies -/
def ens_132 : cE := (192, [some (.inl (.ref 58)), some (.inl (.ref 87)), some (.inl (.ref 91))], [], ([91], []), [(none, [])], [], 0, 0)
def cts_132 : List cE := ens_132 :: cts_131
set_option maxRecDepth 100000 in
theorem cks_132 : mC pg RRS SHF mtL cts_131 ens_132 [(2, [(0, some (.inl (.ref 58))), (1, some (.inl (.ref 87))), (2, some (.inl (.ref 91))), (3, some (.inr (0, 200)))], [], 200, [(-1)], [])] [(0, 3, 0)] 17 = true := by decide +kernel
theorem oks_132 (hl0 : l.1.stackTraces = false) (hA : ∀ e ∈ ctA, cOk l pg RRS SHF e) : ∀ e ∈ cts_132, cOk l pg RRS SHF e := List.forall_mem_cons.mpr ⟨meth_ok pg_ok mtL_ok hl0 (oks_131 hl0 hA) ⟨by decide +kernel, by decide +kernel, by decide +kernel⟩ (by decide +kernel) cks_132, (oks_131 hl0 hA)⟩
/-- FullHouseModel.copies -/
def ens_133 : cE := (192, [some (.inl (.ref 58)), some (.inl (.ref 88)), some (.inl (.ref 92))], [], ([92], []), [(none, [])], [], 0, 0)
def cts_133 : List cE := ens_133 :: cts_132
set_option maxRecDepth 100000 in
theorem cks_133 : mC pg RRS SHF mtL cts_132 ens_133 [(2, [(0, some (.inl (.ref 58))), (1, some (.inl (.ref 88))), (2, some (.inl (.ref 92))), (3, some (.inr (0, 4096)))], [], 4096, [(-1)], [])] [(0, 3, 0)] 17 = true := by decide +kernel
theorem oks_133 (hl0 : l.1.stackTraces = false) (hA : ∀ e ∈ ctA, cOk l pg RRS SHF e) : ∀ e ∈ cts_133, cOk l pg RRS SHF e := List.forall_mem_cons.mpr ⟨meth_ok pg_ok mtL_ok hl0 (oks_132 hl0 hA) ⟨by decide +kernel, by decide +kernel, by decide +kernel⟩ (by decide +kernel) cks_133, (oks_132 hl0 hA)⟩
/-- FullHouseModel.image -/
def ens_134 : cE := (246, [some (.inl (.ref 58))], [], ([89, 90, 91, 92], [(58, 0), (58, 57), (58, 58), (58, 59)]), [(some (some (.inr (0, 1))), [])], [], 0, 0)
def cts_134 : List cE := ens_134 :: cts_133
set_option maxRecDepth 100000 in
theorem cks_134 : mC pg RRS SHF mtL cts_133 ens_134 [] [] 49 = true := by decide +kernel
theorem oks_134 (hl0 : l.1.stackTraces = false) (hA : ∀ e ∈ ctA, cOk l pg RRS SHF e) : ∀ e ∈ cts_134, cOk l pg RRS SHF e := List.forall_mem_cons.mpr ⟨meth_ok pg_ok mtL_ok hl0 (oks_133 hl0 hA) ⟨by decide +kernel, by decide +kernel, by decide +kernel⟩ (by decide +kernel) cks_134, (oks_133 hl0 hA)⟩
/-- FullHouseModel.copies -/
def ens_135 : cE := (192, [some (.inl (.ref 58)), some (.inl (.ref 89)), some (.inl (.ref 85))], [], ([85], []), [(none, [])], [], 0, 0)
def cts_135 : List cE := ens_135 :: cts_134
set_option maxRecDepth 100000 in
theorem cks_135 : mC pg RRS SHF mtL cts_134 ens_135 [(2, [(0, some (.inl (.ref 58))), (1, some (.inl (.ref 89))), (2, some (.inl (.ref 85))), (3, some (.inr (0, 6)))], [], 6, [(-1)], [])] [(0, 3, 0)] 17 = true := by decide +kernel
theorem oks_135 (hl0 : l.1.stackTraces = false) (hA : ∀ e ∈ ctA, cOk l pg RRS SHF e) : ∀ e ∈ cts_135, cOk l pg RRS SHF e := List.forall_mem_cons.mpr ⟨meth_ok pg_ok mtL_ok hl0 (oks_134 hl0 hA) ⟨by decide +kernel, by decide +kernel, by decide +kernel⟩ (by decide +kernel) cks_135, (oks_134 hl0 hA)⟩
/-- FullHouseModel.copies -/
def ens_136 : cE := (192, [some (.inl (.ref 58)), some (.inl (.ref 90)), some (.inl (.ref 86))], [], ([86], []), [(none, [])], [], 0, 0)
def cts_136 : List cE := ens_136 :: cts_135
set_option maxRecDepth 100000 in
theorem cks_136 : mC pg RRS SHF mtL cts_135 ens_136 [(2, [(0, some (.inl (.ref 58))), (1, some (.inl (.ref 90))), (2, some (.inl (.ref 86))), (3, some (.inr (0, 48)))], [], 48, [(-1)], [])] [(0, 3, 0)] 17 = true := by decide +kernel
theorem oks_136 (hl0 : l.1.stackTraces = false) (hA : ∀ e ∈ ctA, cOk l pg RRS SHF e) : ∀ e ∈ cts_136, cOk l pg RRS SHF e := List.forall_mem_cons.mpr ⟨meth_ok pg_ok mtL_ok hl0 (oks_135 hl0 hA) ⟨by decide +kernel, by decide +kernel, by decide +kernel⟩ (by decide +kernel) cks_136, (oks_135 hl0 hA)⟩
/-- FullHouseModel.copies -/
def ens_137 : cE := (192, [some (.inl (.ref 58)), some (.inl (.ref 91)), some (.inl (.ref 87))], [], ([87], []), [(none, [])], [], 0, 0)
def cts_137 : List cE := ens_137 :: cts_136
set_option maxRecDepth 100000 in
theorem cks_137 : mC pg RRS SHF mtL cts_136 ens_137 [(2, [(0, some (.inl (.ref 58))), (1, some (.inl (.ref 91))), (2, some (.inl (.ref 87))), (3, some (.inr (0, 200)))], [], 200, [(-1)], [])] [(0, 3, 0)] 17 = true := by decide +kernel
theorem oks_137 (hl0 : l.1.stackTraces = false) (hA : ∀ e ∈ ctA, cOk l pg RRS SHF e) : ∀ e ∈ cts_137, cOk l pg RRS SHF e := List.forall_mem_cons.mpr ⟨meth_ok pg_ok mtL_ok hl0 (oks_136 hl0 hA) ⟨by decide +kernel, by decide +kernel, by decide +kernel⟩ (by decide +kernel) cks_137, (oks_136 hl0 hA)⟩
/-- FullHouseModel.copies -/
def ens_138 : cE := (192, [some (.inl (.ref 58)), some (.inl (.ref 92)), some (.inl (.ref 88))], [], ([88], []), [(none, [])], [], 0, 0)
def cts_138 : List cE := ens_138 :: cts_137
set_option maxRecDepth 100000 in
theorem cks_138 : mC pg RRS SHF mtL cts_137 ens_138 [(2, [(0, some (.inl (.ref 58))), (1, some (.inl (.ref 92))), (2, some (.inl (.ref 88))), (3, some (.inr (0, 4096)))], [], 4096, [(-1)], [])] [(0, 3, 0)] 17 = true := by decide +kernel
theorem oks_138 (hl0 : l.1.stackTraces = false) (hA : ∀ e ∈ ctA, cOk l pg RRS SHF e) : ∀ e ∈ cts_138, cOk l pg RRS SHF e := List.forall_mem_cons.mpr ⟨meth_ok pg_ok mtL_ok hl0 (oks_137 hl0 hA) ⟨by decide +kernel, by decide +kernel, by decide +kernel⟩ (by decide +kernel) cks_138, (oks_137 hl0 hA)⟩
/-- FullHouseModel.restore -/
def ens_139 : cE := (247, [some (.inl (.ref 58))], [], ([85, 86, 87, 88], [(58, 0), (58, 51), (58, 52)]), [(some (some (.inr (0, 1))), [])], [], 0, 0)
def cts_139 : List cE := ens_139 :: cts_138
set_option maxRecDepth 100000 in
theorem cks_139 : mC pg RRS SHF mtL cts_138 ens_139 [] [] 45 = true := by decide +kernel
theorem oks_139 (hl0 : l.1.stackTraces = false) (hA : ∀ e ∈ ctA, cOk l pg RRS SHF e) : ∀ e ∈ cts_139, cOk l pg RRS SHF e := List.forall_mem_cons.mpr ⟨meth_ok pg_ok mtL_ok hl0 (oks_138 hl0 hA) ⟨by decide +kernel, by decide +kernel, by decide +kernel⟩ (by decide +kernel) cks_139, (oks_138 hl0 hA)⟩
/-- FullHouseModel.copies -/
def ens_140 : cE := (192, [some (.inl (.ref 58)), some (.inl (.ref 67)), some (.inl (.ref 59))], [], ([59], []), [(none, [])], [], 0, 0)
def cts_140 : List cE := ens_140 :: cts_139
set_option maxRecDepth 100000 in
theorem cks_140 : mC pg RRS SHF mtL cts_139 ens_140 [(2, [(0, some (.inl (.ref 58))), (1, some (.inl (.ref 67))), (2, some (.inl (.ref 59))), (3, some (.inr (0, 6)))], [], 6, [(-1)], [])] [(0, 3, 0)] 17 = true := by decide +kernel
theorem oks_140 (hl0 : l.1.stackTraces = false) (hA : ∀ e ∈ ctA, cOk l pg RRS SHF e) : ∀ e ∈ cts_140, cOk l pg RRS SHF e := List.forall_mem_cons.mpr ⟨meth_ok pg_ok mtL_ok hl0 (oks_139 hl0 hA) ⟨by decide +kernel, by decide +kernel, by decide +kernel⟩ (by decide +kernel) cks_140, (oks_139 hl0 hA)⟩
/-- FullHouseModel.copies -/
def ens_141 : cE := (192, [some (.inl (.ref 58)), some (.inl (.ref 68)), some (.inl (.ref 60))], [], ([60], []), [(none, [])], [], 0, 0)
def cts_141 : List cE := ens_141 :: cts_140
set_option maxRecDepth 100000 in
theorem cks_141 : mC pg RRS SHF mtL cts_140 ens_141 [(2, [(0, some (.inl (.ref 58))), (1, some (.inl (.ref 68))), (2, some (.inl (.ref 60))), (3, some (.inr (0, 6)))], [], 6, [(-1)], [])] [(0, 3, 0)] 17 = true := by decide +kernel
theorem oks_141 (hl0 : l.1.stackTraces = false) (hA : ∀ e ∈ ctA, cOk l pg RRS SHF e) : ∀ e ∈ cts_141, cOk l pg RRS SHF e := List.forall_mem_cons.mpr ⟨meth_ok pg_ok mtL_ok hl0 (oks_140 hl0 hA) ⟨by decide +kernel, by decide +kernel, by decide +kernel⟩ (by decide +kernel) cks_141, (oks_140 hl0 hA)⟩
/-- FullHouseModel.copies -/
def ens_142 : cE := (192, [some (.inl (.ref 58)), some (.inl (.ref 69)), some (.inl (.ref 61))], [], ([61], []), [(none, [])], [], 0, 0)
def cts_142 : List cE := ens_142 :: cts_141
set_option maxRecDepth 100000 in
theorem cks_142 : mC pg RRS SHF mtL cts_141 ens_142 [(2, [(0, some (.inl (.ref 58))), (1, some (.inl (.ref 69))), (2, some (.inl (.ref 61))), (3, some (.inr (0, 8)))], [], 8, [(-1)], [])] [(0, 3, 0)] 17 = true := by decide +kernel
theorem oks_142 (hl0 : l.1.stackTraces = false) (hA : ∀ e ∈ ctA, cOk l pg RRS SHF e) : ∀ e ∈ cts_142, cOk l pg RRS SHF e := List.forall_mem_cons.mpr ⟨meth_ok pg_ok mtL_ok hl0 (oks_141 hl0 hA) ⟨by decide +kernel, by decide +kernel, by decide +kernel⟩ (by decide +kernel) cks_142, (oks_141 hl0 hA)⟩
/-- FullHouseModel.copies -/
def ens_143 : cE := (192, [some (.inl (.ref 58)), some (.inl (.ref 70)), some (.inl (.ref 62))], [], ([62], []), [(none, [])], [], 0, 0)
def cts_143 : List cE := ens_143 :: cts_142
set_option maxRecDepth 100000 in
theorem cks_143 : mC pg RRS SHF mtL cts_142 ens_143 [(2, [(0, some (.inl (.ref 58))), (1, some (.inl (.ref 70))), (2, some (.inl (.ref 62))), (3, some (.inr (0, 8)))], [], 8, [(-1)], [])] [(0, 3, 0)] 17 = true := by decide +kernel
theorem oks_143 (hl0 : l.1.stackTraces = false) (hA : ∀ e ∈ ctA, cOk l pg RRS SHF e) : ∀ e ∈ cts_143, cOk l pg RRS SHF e := List.forall_mem_cons.mpr ⟨meth_ok pg_ok mtL_ok hl0 (oks_142 hl0 hA) ⟨by decide +kernel, by decide +kernel, by decide +kernel⟩ (by decide +kernel) cks_143, (oks_142 hl0 hA)⟩
/-- FullHouseModel.copies -/
def ens_144 : cE := (192, [some (.inl (.ref 58)), some (.inl (.ref 71)), some (.inl (.ref 63))], [], ([63], []), [(none, [])], [], 0, 0)
def cts_144 : List cE := ens_144 :: cts_143
set_option maxRecDepth 100000 in
theorem cks_144 : mC pg RRS SHF mtL cts_143 ens_144 [(2, [(0, some (.inl (.ref 58))), (1, some (.inl (.ref 71))), (2, some (.inl (.ref 63))), (3, some (.inr (0, 48)))], [], 48, [(-1)], [])] [(0, 3, 0)] 17 = true := by decide +kernel
theorem oks_144 (hl0 : l.1.stackTraces = false) (hA : ∀ e ∈ ctA, cOk l pg RRS SHF e) : ∀ e ∈ cts_144, cOk l pg RRS SHF e := List.forall_mem_cons.mpr ⟨meth_ok pg_ok mtL_ok hl0 (oks_143 hl0 hA) ⟨by decide +kernel, by decide +kernel, by decide +kernel⟩ (by decide +kernel) cks_144, (oks_143 hl0 hA)⟩
/-- FullHouseModel.copies -/
def ens_145 : cE := (192, [some (.inl (.ref 58)), some (.inl (.ref 72)), some (.inl (.ref 64))], [], ([64], []), [(none, [])], [], 0, 0)
def cts_145 : List cE := ens_145 :: cts_144
set_option maxRecDepth 100000 in
theorem cks_145 : mC pg RRS SHF mtL cts_144 ens_145 [(2, [(0, some (.inl (.ref 58))), (1, some (.inl (.ref 72))), (2, some (.inl (.ref 64))), (3, some (.inr (0, 32)))], [], 32, [(-1)], [])] [(0, 3, 0)] 17 = true := by decide +kernel
theorem oks_145 (hl0 : l.1.stackTraces = false) (hA : ∀ e ∈ ctA, cOk l pg RRS SHF e) : ∀ e ∈ cts_145, cOk l pg RRS SHF e := List.forall_mem_cons.mpr ⟨meth_ok pg_ok mtL_ok hl0 (oks_144 hl0 hA) ⟨by decide +kernel, by decide +kernel, by decide +kernel⟩ (by decide +kernel) cks_145, (oks_144 hl0 hA)⟩
/-- FullHouseModel.house -/
def ens_146 : cE := (174, [some (.inl (.ref 58)), some (.inr ((-2147483648), 2147483647))], [], ([59, 60, 61, 62, 63, 64, 66, 67, 68, 69, 70, 71, 72, 81], [(58, 0), (58, 1), (58, 2), (58, 3), (58, 4), (58, 12), (58, 13), (58, 14), (58, 16), (58, 17), (58, 18), (58, 19), (58, 20), (58, 21), (58, 23), (58, 24), (58, 25), (58, 26), (58, 27), (58, 28), (58, 35), (58, 36), (58, 45), (58, 51), (58, 57)]), [(some (some (.inr (0, 5))), [])], [], 0, 0)
def cts_146 : List cE := ens_146 :: cts_145
set_option maxRecDepth 100000 in
theorem cks_146 : mC pg RRS SHF mtL cts_145 ens_146 [(91, [(0, some (.inl (.ref 58))), (1, some (.inr (0, 800)))], [(58, 13, (0, 0), none), (58, 17, (0, 800), none), (58, 18, (0, 4), none)], 1610, [0, (-2)], []), (91, [(0, some (.inl (.ref 58))), (1, some (.inr (0, 800)))], [(58, 13, (1, 5), none), (58, 17, (0, 800), none), (58, 18, (0, 4), none)], 1609, [0, (-2)], []), (240, [(0, some (.inl (.ref 58))), (1, some (.inr (0, 800))), (2, some (.inr (0, 8)))], [(58, 13, (0, 0), none), (58, 17, (0, 800), none), (58, 18, (0, 0), none)], 8, [(-1), 0], [])] [(0, 2, 0), (1, 58, 17)] 68 = true := by decide +kernel
theorem oks_146 (hl0 : l.1.stackTraces = false) (hA : ∀ e ∈ ctA, cOk l pg RRS SHF e) : ∀ e ∈ cts_146, cOk l pg RRS SHF e := List.forall_mem_cons.mpr ⟨meth_ok pg_ok mtL_ok hl0 (oks_145 hl0 hA) ⟨by decide +kernel, by decide +kernel, by decide +kernel⟩ (by decide +kernel) cks_146, (oks_145 hl0 hA)⟩
/-- FullHouseModel.boundOf -/
def ens_147 : cE := (225, [some (.inl (.ref 58)), some (.inr (3, 3))], [], ([], []), [(some (some (.inr ((-2147483648), 2147483647))), [])], [], 0, 0)
def cts_147 : List cE := ens_147 :: cts_146
set_option maxRecDepth 100000 in
theorem cks_147 : mC pg RRS SHF mtL cts_146 ens_147 [(4, [(0, some (.inl (.ref 58))), (1, some (.inr (3, 3))), (2, some (.inr ((-2147483648), 2147483647))), (3, some (.inr (0, 8)))], [], 386547056711, [(-42949672968), 0, 0, 0], []), (18, [(0, some (.inl (.ref 58))), (1, some (.inr (3, 3))), (2, some (.inr ((-2147483648), 2147483647))), (3, some (.inr (0, 7))), (4, some (.inr ((-2147483648), 2147483647))), (5, some (.inr (0, 6)))], [], 386547056710, [(-42949672968), 0, (-1), 0], []), (61, [(0, some (.inl (.ref 58))), (1, some (.inr (3, 3))), (2, some (.inr ((-2147483648), 2147483647))), (3, some (.inr (0, 7))), (4, some (.inr ((-2147483648), 2147483647))), (5, some (.inr (0, 255)))], [], 365072220233, [(-42949672968), 10, 0, 0], []), (72, [(0, some (.inl (.ref 58))), (1, some (.inr (3, 3))), (2, some (.inr ((-2147483648), 2147483647))), (3, some (.inr (0, 7))), (4, some (.inr (1, 2147483647))), (5, some (.inr (0, 255))), (6, some (.inr ((-1), 7))), (7, some (.inr (0, 8)))], [], 365072220232, [(-42949672968), 10, 0, (-1)], [])] [(0, 3, 0), (0, 4, 0), (0, 5, 0), (0, 7, 0)] 50 = true := by decide +kernel
theorem oks_147 (hl0 : l.1.stackTraces = false) (hA : ∀ e ∈ ctA, cOk l pg RRS SHF e) : ∀ e ∈ cts_147, cOk l pg RRS SHF e := List.forall_mem_cons.mpr ⟨meth_ok pg_ok mtL_ok hl0 (oks_146 hl0 hA) ⟨by decide +kernel, by decide +kernel, by decide +kernel⟩ (by decide +kernel) cks_147, (oks_146 hl0 hA)⟩
/-- FullHouseModel.boundOf -/
def ens_148 : cE := (225, [some (.inl (.ref 58)), some (.inr (2, 2))], [], ([], []), [(some (some (.inr ((-2147483648), 2147483647))), [])], [], 0, 0)
def cts_148 : List cE := ens_148 :: cts_147
set_option maxRecDepth 100000 in
theorem cks_148 : mC pg RRS SHF mtL cts_147 ens_148 [(4, [(0, some (.inl (.ref 58))), (1, some (.inr (2, 2))), (2, some (.inr ((-2147483648), 2147483647))), (3, some (.inr (0, 8)))], [], 386547056711, [(-42949672968), 0, 0, 0], []), (18, [(0, some (.inl (.ref 58))), (1, some (.inr (2, 2))), (2, some (.inr ((-2147483648), 2147483647))), (3, some (.inr (0, 7))), (4, some (.inr ((-2147483648), 2147483647))), (5, some (.inr (0, 6)))], [], 386547056710, [(-42949672968), 0, (-1), 0], []), (61, [(0, some (.inl (.ref 58))), (1, some (.inr (2, 2))), (2, some (.inr ((-2147483648), 2147483647))), (3, some (.inr (0, 7))), (4, some (.inr ((-2147483648), 2147483647))), (5, some (.inr (0, 255)))], [], 365072220233, [(-42949672968), 10, 0, 0], []), (72, [(0, some (.inl (.ref 58))), (1, some (.inr (2, 2))), (2, some (.inr ((-2147483648), 2147483647))), (3, some (.inr (0, 7))), (4, some (.inr (1, 2147483647))), (5, some (.inr (0, 255))), (6, some (.inr ((-1), 7))), (7, some (.inr (0, 8)))], [], 365072220232, [(-42949672968), 10, 0, (-1)], [])] [(0, 3, 0), (0, 4, 0), (0, 5, 0), (0, 7, 0)] 50 = true := by decide +kernel
theorem oks_148 (hl0 : l.1.stackTraces = false) (hA : ∀ e ∈ ctA, cOk l pg RRS SHF e) : ∀ e ∈ cts_148, cOk l pg RRS SHF e := List.forall_mem_cons.mpr ⟨meth_ok pg_ok mtL_ok hl0 (oks_147 hl0 hA) ⟨by decide +kernel, by decide +kernel, by decide +kernel⟩ (by decide +kernel) cks_148, (oks_147 hl0 hA)⟩
/-- FullHouseModel.holds -/
def ens_149 : cE := (223, [some (.inl (.ref 58)), some (.inr (0, 1))], [], ([76, 77, 78], []), [(some (some (.inr (0, 1))), [])], [], 0, 0)
def cts_149 : List cE := ens_149 :: cts_148
set_option maxRecDepth 100000 in
theorem cks_149 : mC pg RRS SHF mtL cts_148 ens_149 [(11, [(0, some (.inl (.ref 58))), (1, some (.inr (0, 1))), (2, some (.inr (0, 63))), (3, some (.inr (0, 6)))], [], 48, [(-7), 0], []), (50, [(0, some (.inl (.ref 58))), (1, some (.inr (0, 1))), (2, some (.inr (0, 63))), (3, some (.inr (0, 5))), (4, some (.inr (0, 5)))], [], 47, [(-7), (-1)], [])] [(0, 3, 0), (0, 4, 0)] 43 = true := by decide +kernel
theorem oks_149 (hl0 : l.1.stackTraces = false) (hA : ∀ e ∈ ctA, cOk l pg RRS SHF e) : ∀ e ∈ cts_149, cOk l pg RRS SHF e := List.forall_mem_cons.mpr ⟨meth_ok pg_ok mtL_ok hl0 (oks_148 hl0 hA) ⟨by decide +kernel, by decide +kernel, by decide +kernel⟩ (by decide +kernel) cks_149, (oks_148 hl0 hA)⟩
/-- FullHouseModel.listsOf -/
def ens_150 : cE := (205, [some (.inl (.ref 58)), some (.inr (1, 1)), some (.inr ((-2147483648), 2147483647))], [], ([73, 74], []), [(none, [])], [], 0, 0)
def cts_150 : List cE := ens_150 :: cts_149
set_option maxRecDepth 100000 in
theorem cks_150 : mC pg RRS SHF mtL cts_149 ens_150 [(9, [(0, some (.inl (.ref 58))), (1, some (.inr (1, 1))), (2, some (.inr ((-2147483648), 2147483647))), (3, some (.inr (0, 256)))], [(74, 1, (0, 256), none)], 256, [(-1)], [((1, 74, 1), (0, 3, 0), (-256), 0)])] [(0, 3, 0)] 47 = true := by decide +kernel
theorem oks_150 (hl0 : l.1.stackTraces = false) (hA : ∀ e ∈ ctA, cOk l pg RRS SHF e) : ∀ e ∈ cts_150, cOk l pg RRS SHF e := List.forall_mem_cons.mpr ⟨meth_ok pg_ok mtL_ok hl0 (oks_149 hl0 hA) ⟨by decide +kernel, by decide +kernel, by decide +kernel⟩ (by decide +kernel) cks_150, (oks_149 hl0 hA)⟩
/-- FullHouseModel.listsOf -/
def ens_151 : cE := (205, [some (.inl (.ref 58)), some (.inr (0, 0)), some (.inr ((-2147483648), 2147483647))], [], ([73, 74], []), [(none, [])], [], 0, 0)
def cts_151 : List cE := ens_151 :: cts_150
set_option maxRecDepth 100000 in
theorem cks_151 : mC pg RRS SHF mtL cts_150 ens_151 [(9, [(0, some (.inl (.ref 58))), (1, some (.inr (0, 0))), (2, some (.inr ((-2147483648), 2147483647))), (3, some (.inr (0, 256)))], [(74, 0, (0, 256), none)], 256, [(-1)], [((1, 74, 0), (0, 3, 0), (-256), 0)])] [(0, 3, 0)] 47 = true := by decide +kernel
theorem oks_151 (hl0 : l.1.stackTraces = false) (hA : ∀ e ∈ ctA, cOk l pg RRS SHF e) : ∀ e ∈ cts_151, cOk l pg RRS SHF e := List.forall_mem_cons.mpr ⟨meth_ok pg_ok mtL_ok hl0 (oks_150 hl0 hA) ⟨by decide +kernel, by decide +kernel, by decide +kernel⟩ (by decide +kernel) cks_151, (oks_150 hl0 hA)⟩
/-- FullHouseModel.listsOf -/
def ens_152 : cE := (205, [some (.inl (.ref 58)), some (.inr (2, 2)), some (.inr ((-2147483648), 2147483647))], [], ([73, 74], []), [(none, [])], [], 0, 0)
def cts_152 : List cE := ens_152 :: cts_151
set_option maxRecDepth 100000 in
theorem cks_152 : mC pg RRS SHF mtL cts_151 ens_152 [(9, [(0, some (.inl (.ref 58))), (1, some (.inr (2, 2))), (2, some (.inr ((-2147483648), 2147483647))), (3, some (.inr (0, 256)))], [(74, 2, (0, 256), none)], 256, [(-1)], [((1, 74, 2), (0, 3, 0), (-256), 0)])] [(0, 3, 0)] 47 = true := by decide +kernel
theorem oks_152 (hl0 : l.1.stackTraces = false) (hA : ∀ e ∈ ctA, cOk l pg RRS SHF e) : ∀ e ∈ cts_152, cOk l pg RRS SHF e := List.forall_mem_cons.mpr ⟨meth_ok pg_ok mtL_ok hl0 (oks_151 hl0 hA) ⟨by decide +kernel, by decide +kernel, by decide +kernel⟩ (by decide +kernel) cks_152, (oks_151 hl0 hA)⟩
/-- FullHouseModel.listsOf -/
def ens_153 : cE := (205, [some (.inl (.ref 58)), some (.inr (3, 3)), some (.inr ((-2147483648), 2147483647))], [], ([73, 74], []), [(none, [])], [], 0, 0)
def cts_153 : List cE := ens_153 :: cts_152
set_option maxRecDepth 100000 in
theorem cks_153 : mC pg RRS SHF mtL cts_152 ens_153 [(9, [(0, some (.inl (.ref 58))), (1, some (.inr (3, 3))), (2, some (.inr ((-2147483648), 2147483647))), (3, some (.inr (0, 256)))], [(74, 3, (0, 256), none)], 256, [(-1)], [((1, 74, 3), (0, 3, 0), (-256), 0)])] [(0, 3, 0)] 47 = true := by decide +kernel
theorem oks_153 (hl0 : l.1.stackTraces = false) (hA : ∀ e ∈ ctA, cOk l pg RRS SHF e) : ∀ e ∈ cts_153, cOk l pg RRS SHF e := List.forall_mem_cons.mpr ⟨meth_ok pg_ok mtL_ok hl0 (oks_152 hl0 hA) ⟨by decide +kernel, by decide +kernel, by decide +kernel⟩ (by decide +kernel) cks_153, (oks_152 hl0 hA)⟩
/-- FullHouseModel.listsOf -/
def ens_154 : cE := (205, [some (.inl (.ref 58)), some (.inr (4, 4)), some (.inr ((-2147483648), 2147483647))], [], ([73, 74], []), [(none, [])], [], 0, 0)
def cts_154 : List cE := ens_154 :: cts_153
set_option maxRecDepth 100000 in
theorem cks_154 : mC pg RRS SHF mtL cts_153 ens_154 [(9, [(0, some (.inl (.ref 58))), (1, some (.inr (4, 4))), (2, some (.inr ((-2147483648), 2147483647))), (3, some (.inr (0, 256)))], [(74, 4, (0, 256), none)], 256, [(-1)], [((1, 74, 4), (0, 3, 0), (-256), 0)])] [(0, 3, 0)] 47 = true := by decide +kernel
theorem oks_154 (hl0 : l.1.stackTraces = false) (hA : ∀ e ∈ ctA, cOk l pg RRS SHF e) : ∀ e ∈ cts_154, cOk l pg RRS SHF e := List.forall_mem_cons.mpr ⟨meth_ok pg_ok mtL_ok hl0 (oks_153 hl0 hA) ⟨by decide +kernel, by decide +kernel, by decide +kernel⟩ (by decide +kernel) cks_154, (oks_153 hl0 hA)⟩
/-- FullHouseModel.listsOf -/
def ens_155 : cE := (205, [some (.inl (.ref 58)), some (.inr (5, 5)), some (.inr ((-2147483648), 2147483647))], [], ([73, 74], []), [(none, [])], [], 0, 0)
def cts_155 : List cE := ens_155 :: cts_154
set_option maxRecDepth 100000 in
theorem cks_155 : mC pg RRS SHF mtL cts_154 ens_155 [(9, [(0, some (.inl (.ref 58))), (1, some (.inr (5, 5))), (2, some (.inr ((-2147483648), 2147483647))), (3, some (.inr (0, 256)))], [(74, 5, (0, 256), none)], 256, [(-1)], [((1, 74, 5), (0, 3, 0), (-256), 0)])] [(0, 3, 0)] 47 = true := by decide +kernel
theorem oks_155 (hl0 : l.1.stackTraces = false) (hA : ∀ e ∈ ctA, cOk l pg RRS SHF e) : ∀ e ∈ cts_155, cOk l pg RRS SHF e := List.forall_mem_cons.mpr ⟨meth_ok pg_ok mtL_ok hl0 (oks_154 hl0 hA) ⟨by decide +kernel, by decide +kernel, by decide +kernel⟩ (by decide +kernel) cks_155, (oks_154 hl0 hA)⟩
/-- FullHouseModel.pains -/
def ens_156 : cE := (226, [some (.inl (.ref 58)), some (.inr (0, 255))], [], ([], []), [(some (some (.inr ((-2147483648), 2147483647))), [])], [], 0, 0)
def cts_156 : List cE := ens_156 :: cts_155
set_option maxRecDepth 100000 in
theorem cks_156 : mC pg RRS SHF mtL cts_155 ens_156 [(4, [(0, some (.inl (.ref 58))), (1, some (.inr (0, 255))), (2, some (.inr ((-2147483648), 2147483647))), (3, some (.inr (0, 8)))], [], 8, [(-1)], [])] [(0, 3, 0)] 30 = true := by decide +kernel
theorem oks_156 (hl0 : l.1.stackTraces = false) (hA : ∀ e ∈ ctA, cOk l pg RRS SHF e) : ∀ e ∈ cts_156, cOk l pg RRS SHF e := List.forall_mem_cons.mpr ⟨meth_ok pg_ok mtL_ok hl0 (oks_155 hl0 hA) ⟨by decide +kernel, by decide +kernel, by decide +kernel⟩ (by decide +kernel) cks_156, (oks_155 hl0 hA)⟩
/-- FullHouseModel.listsAll -/
def ens_157 : cE := (204, [some (.inl (.ref 58)), some (.inr (0, 255))], [], ([73, 74, 75], []), [(none, [])], [], 0, 0)
def cts_157 : List cE := ens_157 :: cts_156
set_option maxRecDepth 100000 in
theorem cks_157 : mC pg RRS SHF mtL cts_156 ens_157 [(2, [(0, some (.inl (.ref 58))), (1, some (.inr (0, 255))), (2, some (.inr (0, 6)))], [], 132, [(-19), 0], []), (15, [(0, some (.inl (.ref 58))), (1, some (.inr (0, 255))), (2, some (.inr (0, 5))), (3, some (.inr (0, 255))), (4, some (.inr (0, 8)))], [], 131, [(-19), (-1)], []), (83, [(0, some (.inl (.ref 58))), (1, some (.inr (0, 255))), (2, some (.inr (0, 5))), (3, some (.inr ((-2147483648), 2147483647))), (4, some (.inr (0, 8)))], [], 122, [(-19), (-1)], [])] [(0, 2, 0), (0, 4, 0)] 43 = true := by decide +kernel
theorem oks_157 (hl0 : l.1.stackTraces = false) (hA : ∀ e ∈ ctA, cOk l pg RRS SHF e) : ∀ e ∈ cts_157, cOk l pg RRS SHF e := List.forall_mem_cons.mpr ⟨meth_ok pg_ok mtL_ok hl0 (oks_156 hl0 hA) ⟨by decide +kernel, by decide +kernel, by decide +kernel⟩ (by decide +kernel) cks_157, (oks_156 hl0 hA)⟩
/-- FullHouseModel.learn -/
def ens_158 : cE := (224, [some (.inl (.ref 58)), some (.inr (0, 1)), some (.inr ((-2147483648), 2147483647))], [], ([73, 74, 75, 76, 77, 78], [(58, 0)]), [(some (some (.inr ((-2147483648), 2147483647))), [])], [], 0, 0)
def cts_158 : List cE := ens_158 :: cts_157
set_option maxRecDepth 100000 in
theorem cks_158 : mC pg RRS SHF mtL cts_157 ens_158 [(45, [(0, some (.inl (.ref 58))), (1, some (.inr (0, 1))), (2, some (.inr (0, 1))), (3, some (.inr ((-1), 255))), (4, some (.inr (0, 256)))], [], 256, [(-1)], [])] [(0, 4, 0)] 32 = true := by decide +kernel
theorem oks_158 (hl0 : l.1.stackTraces = false) (hA : ∀ e ∈ ctA, cOk l pg RRS SHF e) : ∀ e ∈ cts_158, cOk l pg RRS SHF e := List.forall_mem_cons.mpr ⟨meth_ok pg_ok mtL_ok hl0 (oks_157 hl0 hA) ⟨by decide +kernel, by decide +kernel, by decide +kernel⟩ (by decide +kernel) cks_158, (oks_157 hl0 hA)⟩
/-- Arrays.fill -/
def ens_159 : cE := (12, [some (.inl (.ref 7)), some (.inr (0, 0))], [], ([7], []), [(none, [])], [], 0, 0)
def cts_159 : List cE := ens_159 :: cts_158
set_option maxRecDepth 100000 in
theorem cks_159 : mC pg RRS SHF mtL cts_158 ens_159 [(5, [(0, some (.inl (.ref 7))), (1, some (.inr (0, 0))), (2, some (.inr (0, 6))), (3, some (.inr (6, 6)))], [], 6, [(-1)], [])] [(0, 2, 0)] 14 = true := by decide +kernel
theorem oks_159 (hl0 : l.1.stackTraces = false) (hA : ∀ e ∈ ctA, cOk l pg RRS SHF e) : ∀ e ∈ cts_159, cOk l pg RRS SHF e := List.forall_mem_cons.mpr ⟨meth_ok pg_ok mtL_ok hl0 (oks_158 hl0 hA) ⟨by decide +kernel, by decide +kernel, by decide +kernel⟩ (by decide +kernel) cks_159, (oks_158 hl0 hA)⟩
/-- Arrays.fill -/
def ens_160 : cE := (12, [some (.inl (.ref 8)), some (.inr (0, 0))], [], ([8], []), [(none, [])], [], 0, 0)
def cts_160 : List cE := ens_160 :: cts_159
set_option maxRecDepth 100000 in
theorem cks_160 : mC pg RRS SHF mtL cts_159 ens_160 [(5, [(0, some (.inl (.ref 8))), (1, some (.inr (0, 0))), (2, some (.inr (0, 6))), (3, some (.inr (6, 6)))], [], 6, [(-1)], [])] [(0, 2, 0)] 14 = true := by decide +kernel
theorem oks_160 (hl0 : l.1.stackTraces = false) (hA : ∀ e ∈ ctA, cOk l pg RRS SHF e) : ∀ e ∈ cts_160, cOk l pg RRS SHF e := List.forall_mem_cons.mpr ⟨meth_ok pg_ok mtL_ok hl0 (oks_159 hl0 hA) ⟨by decide +kernel, by decide +kernel, by decide +kernel⟩ (by decide +kernel) cks_160, (oks_159 hl0 hA)⟩
/-- Arrays.fill -/
def ens_161 : cE := (12, [some (.inl (.ref 11)), some (.inr (0, 0))], [], ([11], []), [(none, [])], [], 0, 0)
def cts_161 : List cE := ens_161 :: cts_160
set_option maxRecDepth 100000 in
theorem cks_161 : mC pg RRS SHF mtL cts_160 ens_161 [(5, [(0, some (.inl (.ref 11))), (1, some (.inr (0, 0))), (2, some (.inr (0, 8))), (3, some (.inr (8, 8)))], [], 8, [(-1)], [])] [(0, 2, 0)] 14 = true := by decide +kernel
theorem oks_161 (hl0 : l.1.stackTraces = false) (hA : ∀ e ∈ ctA, cOk l pg RRS SHF e) : ∀ e ∈ cts_161, cOk l pg RRS SHF e := List.forall_mem_cons.mpr ⟨meth_ok pg_ok mtL_ok hl0 (oks_160 hl0 hA) ⟨by decide +kernel, by decide +kernel, by decide +kernel⟩ (by decide +kernel) cks_161, (oks_160 hl0 hA)⟩
/-- Arrays.fill -/
def ens_162 : cE := (12, [some (.inl (.ref 12)), some (.inr (0, 0))], [], ([12], []), [(none, [])], [], 0, 0)
def cts_162 : List cE := ens_162 :: cts_161
set_option maxRecDepth 100000 in
theorem cks_162 : mC pg RRS SHF mtL cts_161 ens_162 [(5, [(0, some (.inl (.ref 12))), (1, some (.inr (0, 0))), (2, some (.inr (0, 48))), (3, some (.inr (48, 48)))], [], 48, [(-1)], [])] [(0, 2, 0)] 14 = true := by decide +kernel
theorem oks_162 (hl0 : l.1.stackTraces = false) (hA : ∀ e ∈ ctA, cOk l pg RRS SHF e) : ∀ e ∈ cts_162, cOk l pg RRS SHF e := List.forall_mem_cons.mpr ⟨meth_ok pg_ok mtL_ok hl0 (oks_161 hl0 hA) ⟨by decide +kernel, by decide +kernel, by decide +kernel⟩ (by decide +kernel) cks_162, (oks_161 hl0 hA)⟩
/-- Tokens.advance -/
def ens_163 : cE := (48, [some (.inl (.ref 2))], [], ([], [(2, 3), (2, 4), (2, 5)]), [(none, [])], [], 0, 0)
def cts_163 : List cE := ens_163 :: cts_162
set_option maxRecDepth 100000 in
theorem cks_163 : mC pg RRS SHF mtL cts_162 ens_163 [(8, [(0, some (.inl (.ref 2)))], [(2, 2, (0, 800), none), (2, 4, (0, 800), none), (2, 5, (0, 800), none)], 2402, [(-1), 0], []), (94, [(0, some (.inl (.ref 2)))], [(2, 2, (1, 800), none), (2, 4, (0, 799), none), (2, 5, (0, 800), none)], 1601, [0, (-1)], []), (153, [(0, some (.inl (.ref 2)))], [(2, 2, (1, 800), none), (2, 4, (0, 799), none), (2, 5, (0, 800), none)], 800, [0, (-1)], [])] [(1, 2, 4), (1, 2, 5)] 58 = true := by decide +kernel
theorem oks_163 (hl0 : l.1.stackTraces = false) (hA : ∀ e ∈ ctA, cOk l pg RRS SHF e) : ∀ e ∈ cts_163, cOk l pg RRS SHF e := List.forall_mem_cons.mpr ⟨meth_ok pg_ok mtL_ok hl0 (oks_162 hl0 hA) ⟨by decide +kernel, by decide +kernel, by decide +kernel⟩ (by decide +kernel) cks_163, (oks_162 hl0 hA)⟩
/-- Tokens.value -/
def ens_164 : cE := (69, [some (.inl (.ref 2))], [], ([], []), [(some (some (.inr ((-2147483648), 2147483647))), [])], [], 0, 0)
def cts_164 : List cE := ens_164 :: cts_163
set_option maxRecDepth 100000 in
theorem cks_164 : mC pg RRS SHF mtL cts_163 ens_164 [(7, [(0, some (.inl (.ref 2))), (1, some (.inr ((-2147483648), 2147483647))), (2, some (.inr (0, 800)))], [], 800, [(-1)], [])] [(0, 2, 0)] 22 = true := by decide +kernel
theorem oks_164 (hl0 : l.1.stackTraces = false) (hA : ∀ e ∈ ctA, cOk l pg RRS SHF e) : ∀ e ∈ cts_164, cOk l pg RRS SHF e := List.forall_mem_cons.mpr ⟨meth_ok pg_ok mtL_ok hl0 (oks_163 hl0 hA) ⟨by decide +kernel, by decide +kernel, by decide +kernel⟩ (by decide +kernel) cks_164, (oks_163 hl0 hA)⟩
/-- House.allChances -/
def ens_165 : cE := (71, [some (.inl (.ref 4))], [], ([], []), [(some (some (.inr ((-2147483648), 2147483647))), [])], [], 0, 0)
def cts_165 : List cE := ens_165 :: cts_164
set_option maxRecDepth 100000 in
theorem cks_165 : mC pg RRS SHF mtL cts_164 ens_165 [(4, [(0, some (.inl (.ref 4))), (1, some (.inr ((-2147483648), 2147483647))), (2, some (.inr (0, 6)))], [], 6, [(-1)], [])] [(0, 2, 0)] 18 = true := by decide +kernel
theorem oks_165 (hl0 : l.1.stackTraces = false) (hA : ∀ e ∈ ctA, cOk l pg RRS SHF e) : ∀ e ∈ cts_165, cOk l pg RRS SHF e := List.forall_mem_cons.mpr ⟨meth_ok pg_ok mtL_ok hl0 (oks_164 hl0 hA) ⟨by decide +kernel, by decide +kernel, by decide +kernel⟩ (by decide +kernel) cks_165, (oks_164 hl0 hA)⟩
/-- Reader.read -/
def ens_166 : cE := (45, [some (.inl (.ref 1)), some (.inl (.ref 4)), some (.inr (0, 800))], [], ([5, 6, 7, 8, 9, 10, 11, 12, 13, 14, 15, 16], [(1, 1), (1, 2), (2, 2), (2, 3), (2, 4), (2, 5), (4, 0), (4, 1), (4, 2), (4, 3)]), [(some (some (.inr (0, 5))), [])], [], 0, 0)
def cts_166 : List cE := ens_166 :: cts_165
set_option maxRecDepth 100000 in
theorem cks_166 : mC pg RRS SHF mtL cts_165 ens_166 [(24, [(0, some (.inl (.ref 1))), (1, some (.inl (.ref 4))), (2, some (.inr (0, 800))), (3, some (.inr (0, 999)))], [], 999, [(-1)], [])] [(0, 3, 0)] 141 = true := by decide +kernel
theorem oks_166 (hl0 : l.1.stackTraces = false) (hA : ∀ e ∈ ctA, cOk l pg RRS SHF e) : ∀ e ∈ cts_166, cOk l pg RRS SHF e := List.forall_mem_cons.mpr ⟨meth_ok pg_ok mtL_ok hl0 (oks_165 hl0 hA) ⟨by decide +kernel, by decide +kernel, by decide +kernel⟩ (by decide +kernel) cks_166, (oks_165 hl0 hA)⟩
end CT
