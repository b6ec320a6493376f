section CT
variable {l : aL}
/-- FullHouseModel.guesses -/
def en_121 : cE := (232, [some (.inl (.ref 58)), some (.inr (0, 255))], [], ([], []), [(some (some (.inr ((-2147483648), 2147483647))), [])], [], 0, 0)
def ct_121 : List cE := en_121 :: ct_120
set_option maxRecDepth 100000 in
theorem ck_121 : mC pg RR SHF mtL ct_120 en_121 [(4, [(0, some (.inl (.ref 58))), (1, some (.inr (0, 255))), (2, some (.inr ((-2147483648), 2147483647))), (3, some (.inr (0, 7)))], [], 127, [(-16), 0, 0], []), (18, [(0, some (.inl (.ref 58))), (1, some (.inr (0, 255))), (2, some (.inr ((-2147483648), 2147483647))), (3, some (.inr (0, 6))), (4, some (.inr (0, 1))), (5, some (.inr (0, 6)))], [], 126, [(-16), (-1), 0], []), (67, [(0, some (.inl (.ref 58))), (1, some (.inr (0, 255))), (2, some (.inr ((-2147483648), 2147483647))), (3, some (.inr (0, 6))), (4, some (.inr (1, 1))), (5, some (.inr ((-2147483648), 2147483647))), (6, some (.inr (0, 7)))], [], 119, [(-16), 0, (-1)], [])] [(0, 3, 0), (0, 5, 0), (0, 6, 0)] 27 = true := by decide +kernel
theorem ok_121 (hl0 : l.1.stackTraces = false) (hA : ∀ e ∈ ctA, cOk l pg RR SHF e) : ∀ e ∈ ct_121, cOk l pg RR SHF e := List.forall_mem_cons.mpr ⟨meth_ok pg_ok mtL_ok hl0 (ok_120 hl0 hA) ⟨by decide +kernel, by decide +kernel, by decide +kernel⟩ (by decide +kernel) ck_121, (ok_120 hl0 hA)⟩
/-- FullHouseModel.looks -/
def en_122 : cE := (230, [some (.inl (.ref 58)), some (.inr ((-2147483648), 2147483647))], [], ([73, 74, 75, 76, 77, 78, 80, 84], [(58, 0), (58, 46)]), [(some (some (.inr ((-2147483648), 2147483647))), [])], [], 0, 0)
def ct_122 : List cE := en_122 :: ct_121
set_option maxRecDepth 100000 in
theorem ck_122 : mC pg RR SHF mtL ct_121 en_122 [] [] 33 = true := by decide +kernel
theorem ok_122 (hl0 : l.1.stackTraces = false) (hA : ∀ e ∈ ctA, cOk l pg RR SHF e) : ∀ e ∈ ct_122, cOk l pg RR SHF e := List.forall_mem_cons.mpr ⟨meth_ok pg_ok mtL_ok hl0 (ok_121 hl0 hA) ⟨by decide +kernel, by decide +kernel, by decide +kernel⟩ (by decide +kernel) ck_122, (ok_121 hl0 hA)⟩
/-- FullHouseModel.best -/
def en_123 : cE := (235, [some (.inl (.ref 58)), some (.inr ((-2147483648), 2147483647))], [], ([73, 74, 75, 76, 77, 78, 80, 84], [(58, 0), (58, 46)]), [(some (some (.inr ((-1), 255))), [])], [], 0, 0)
def ct_123 : List cE := en_123 :: ct_122
set_option maxRecDepth 100000 in
theorem ck_123 : mC pg RR SHF mtL ct_122 en_123 [(32, [(0, some (.inl (.ref 58))), (1, some (.inr (0, 8))), (2, some (.inr ((-1), 255))), (3, some (.inr (0, 256)))], [], 256, [(-1)], [])] [(0, 3, 0)] 29 = true := by decide +kernel
theorem ok_123 (hl0 : l.1.stackTraces = false) (hA : ∀ e ∈ ctA, cOk l pg RR SHF e) : ∀ e ∈ ct_123, cOk l pg RR SHF e := List.forall_mem_cons.mpr ⟨meth_ok pg_ok mtL_ok hl0 (ok_122 hl0 hA) ⟨by decide +kernel, by decide +kernel, by decide +kernel⟩ (by decide +kernel) ck_123, (ok_122 hl0 hA)⟩
/-- FullHouseModel.often -/
def en_124 : cE := (236, [some (.inl (.ref 58)), some (.inr ((-2147483648), 2147483647)), some (.inr ((-2147483648), 2147483647))], [], ([], [(58, 0)]), [(some (some (.inr ((-1), 1000))), [])], [], 0, 0)
def ct_124 : List cE := en_124 :: ct_123
set_option maxRecDepth 100000 in
theorem ck_124 : mC pg RR SHF mtL ct_123 en_124 [(46, [(0, some (.inl (.ref 58))), (1, some (.inr (0, 5))), (2, some (.inr (0, 1000))), (3, none), (5, some (.inr (0, 1001)))], [], 1001, [(-1)], [])] [(0, 5, 0)] 34 = true := by decide +kernel
theorem ok_124 (hl0 : l.1.stackTraces = false) (hA : ∀ e ∈ ctA, cOk l pg RR SHF e) : ∀ e ∈ ct_124, cOk l pg RR SHF e := List.forall_mem_cons.mpr ⟨meth_ok pg_ok mtL_ok hl0 (ok_123 hl0 hA) ⟨by decide +kernel, by decide +kernel, by decide +kernel⟩ (by decide +kernel) ck_124, (ok_123 hl0 hA)⟩
/-- FullHouseModel.seldom -/
def en_125 : cE := (237, [some (.inl (.ref 58)), some (.inr ((-2147483648), 2147483647)), some (.inr ((-2147483648), 2147483647))], [], ([], [(58, 0)]), [(some (some (.inr ((-2147483648), 2147483647))), [])], [], 0, 0)
def ct_125 : List cE := en_125 :: ct_124
set_option maxRecDepth 100000 in
theorem ck_125 : mC pg RR SHF mtL ct_124 en_125 [(38, [(0, some (.inl (.ref 58))), (1, some (.inr (0, 5))), (2, some (.inr (0, 5000))), (3, none), (5, some (.inr (0, 5000)))], [], 5000, [(-1)], [])] [(0, 5, 0)] 34 = true := by decide +kernel
theorem ok_125 (hl0 : l.1.stackTraces = false) (hA : ∀ e ∈ ctA, cOk l pg RR SHF e) : ∀ e ∈ ct_125, cOk l pg RR SHF e := List.forall_mem_cons.mpr ⟨meth_ok pg_ok mtL_ok hl0 (ok_124 hl0 hA) ⟨by decide +kernel, by decide +kernel, by decide +kernel⟩ (by decide +kernel) ck_125, (ok_124 hl0 hA)⟩
/-- FullHouseModel.begin -/
def en_126 : cE := (238, [some (.inl (.ref 58)), some (.inr ((-2147483648), 2147483647))], [], ([85, 86], [(58, 0), (58, 51), (58, 52)]), [(none, [])], [], 0, 0)
def ct_126 : List cE := en_126 :: ct_125
set_option maxRecDepth 100000 in
theorem ck_126 : mC pg RR SHF mtL ct_125 en_126 [(17, [(0, some (.inl (.ref 58))), (1, some (.inr ((-2147483648), 2147483647))), (2, some (.inr (0, 6)))], [], 132, [(-19), 0], []), (32, [(0, some (.inl (.ref 58))), (1, some (.inr ((-2147483648), 2147483647))), (2, some (.inr (0, 5))), (3, some (.inr (0, 8)))], [], 131, [(-19), (-1)], []), (86, [(0, some (.inl (.ref 58))), (1, some (.inr ((-2147483648), 2147483647))), (2, some (.inr (0, 5))), (3, some (.inr (0, 8)))], [], 122, [(-19), (-1)], [])] [(0, 2, 0), (0, 3, 0)] 35 = true := by decide +kernel
theorem ok_126 (hl0 : l.1.stackTraces = false) (hA : ∀ e ∈ ctA, cOk l pg RR SHF e) : ∀ e ∈ ct_126, cOk l pg RR SHF e := List.forall_mem_cons.mpr ⟨meth_ok pg_ok mtL_ok hl0 (ok_125 hl0 hA) ⟨by decide +kernel, by decide +kernel, by decide +kernel⟩ (by decide +kernel) ck_126, (ok_125 hl0 hA)⟩
/-- FullHouseModel.on -/
def en_127 : cE := (239, [some (.inl (.ref 58)), some (.inr ((-2147483648), 2147483647))], [], ([66, 73, 74, 75, 76, 77, 78, 85, 86, 87, 88], [(58, 0), (58, 51), (58, 52)]), [(some (some (.inr ((-1), 200))), [])], [], 0, 0)
def ct_127 : List cE := en_127 :: ct_126
set_option maxRecDepth 100000 in
theorem ck_127 : mC pg RR SHF mtL ct_126 en_127 [(56, [(0, some (.inl (.ref 58))), (1, some (.inr (0, 0))), (2, some (.inr (0, 0)))], [(58, 51, (0, 200), none)], 60, [(-1)], [((1, 58, 51), (0, 2, 0), 0, 200)]), (56, [(0, some (.inl (.ref 58))), (1, some (.inr (1, 1))), (2, some (.inr (0, 1)))], [(58, 51, (0, 200), none)], 60, [(-1)], [((1, 58, 51), (0, 2, 0), 0, 199)]), (56, [(0, some (.inl (.ref 58))), (1, some (.inr (2, 2))), (2, some (.inr (0, 2)))], [(58, 51, (0, 200), none)], 60, [(-1)], [((1, 58, 51), (0, 2, 0), 0, 198)]), (56, [(0, some (.inl (.ref 58))), (1, some (.inr (3, 3))), (2, some (.inr (0, 3)))], [(58, 51, (0, 200), none)], 60, [(-1)], [((1, 58, 51), (0, 2, 0), 0, 197)]), (56, [(0, some (.inl (.ref 58))), (1, some (.inr (4, 4))), (2, some (.inr (0, 4)))], [(58, 51, (0, 200), none)], 60, [(-1)], [((1, 58, 51), (0, 2, 0), 0, 196)]), (56, [(0, some (.inl (.ref 58))), (1, some (.inr (5, 5))), (2, some (.inr (0, 5)))], [(58, 51, (0, 200), none)], 60, [(-1)], [((1, 58, 51), (0, 2, 0), 0, 195)]), (56, [(0, some (.inl (.ref 58))), (1, some (.inr (6, 6))), (2, some (.inr (0, 6)))], [(58, 51, (0, 200), none)], 60, [(-1)], [((1, 58, 51), (0, 2, 0), 0, 194)]), (56, [(0, some (.inl (.ref 58))), (1, some (.inr (7, 7))), (2, some (.inr (0, 7)))], [(58, 51, (0, 200), none)], 60, [(-1)], [((1, 58, 51), (0, 2, 0), 0, 193)]), (56, [(0, some (.inl (.ref 58))), (1, some (.inr (8, 8))), (2, some (.inr (0, 8)))], [(58, 51, (0, 200), none)], 60, [(-1)], [((1, 58, 51), (0, 2, 0), 0, 192)]), (56, [(0, some (.inl (.ref 58))), (1, some (.inr (9, 9))), (2, some (.inr (0, 9)))], [(58, 51, (0, 200), none)], 60, [(-1)], [((1, 58, 51), (0, 2, 0), 0, 191)]), (56, [(0, some (.inl (.ref 58))), (1, some (.inr (10, 10))), (2, some (.inr (0, 15)))], [(58, 51, (0, 200), none)], 60, [(-1)], [((1, 58, 51), (0, 2, 0), 0, 190)]), (56, [(0, some (.inl (.ref 58))), (1, some (.inr (11, 11))), (2, some (.inr (0, 15)))], [(58, 51, (0, 200), none)], 60, [(-1)], [((1, 58, 51), (0, 2, 0), 0, 189)]), (56, [(0, some (.inl (.ref 58))), (1, some (.inr (12, 12))), (2, some (.inr (0, 15)))], [(58, 51, (0, 200), none)], 60, [(-1)], [((1, 58, 51), (0, 2, 0), 0, 188)]), (56, [(0, some (.inl (.ref 58))), (1, some (.inr (13, 13))), (2, some (.inr (0, 15)))], [(58, 51, (0, 200), none)], 60, [(-1)], [((1, 58, 51), (0, 2, 0), 0, 187)]), (56, [(0, some (.inl (.ref 58))), (1, some (.inr (14, 14))), (2, some (.inr (0, 15)))], [(58, 51, (0, 200), none)], 60, [(-1)], [((1, 58, 51), (0, 2, 0), 0, 186)]), (56, [(0, some (.inl (.ref 58))), (1, some (.inr (15, 15))), (2, some (.inr (0, 15)))], [(58, 51, (0, 200), none)], 60, [(-1)], [((1, 58, 51), (0, 2, 0), 0, 185)]), (56, [(0, some (.inl (.ref 58))), (1, some (.inr (16, 16))), (2, some (.inr (0, 22)))], [(58, 51, (0, 200), none)], 60, [(-1)], [((1, 58, 51), (0, 2, 0), 0, 184)]), (56, [(0, some (.inl (.ref 58))), (1, some (.inr (17, 17))), (2, some (.inr (0, 22)))], [(58, 51, (0, 200), none)], 60, [(-1)], [((1, 58, 51), (0, 2, 0), 0, 183)]), (56, [(0, some (.inl (.ref 58))), (1, some (.inr (18, 18))), (2, some (.inr (0, 22)))], [(58, 51, (0, 200), none)], 60, [(-1)], [((1, 58, 51), (0, 2, 0), 0, 182)]), (56, [(0, some (.inl (.ref 58))), (1, some (.inr (19, 19))), (2, some (.inr (0, 22)))], [(58, 51, (0, 200), none)], 60, [(-1)], [((1, 58, 51), (0, 2, 0), 0, 181)]), (56, [(0, some (.inl (.ref 58))), (1, some (.inr (20, 20))), (2, some (.inr (0, 22)))], [(58, 51, (0, 200), none)], 60, [(-1)], [((1, 58, 51), (0, 2, 0), 0, 180)]), (56, [(0, some (.inl (.ref 58))), (1, some (.inr (21, 21))), (2, some (.inr (0, 22)))], [(58, 51, (0, 200), none)], 60, [(-1)], [((1, 58, 51), (0, 2, 0), 0, 179)]), (56, [(0, some (.inl (.ref 58))), (1, some (.inr (22, 22))), (2, some (.inr (0, 22)))], [(58, 51, (0, 200), none)], 60, [(-1)], [((1, 58, 51), (0, 2, 0), 0, 178)]), (56, [(0, some (.inl (.ref 58))), (1, some (.inr (23, 23))), (2, some (.inr (0, 23)))], [(58, 51, (0, 200), none)], 60, [(-1)], [((1, 58, 51), (0, 2, 0), 0, 177)]), (56, [(0, some (.inl (.ref 58))), (1, some (.inr (24, 24))), (2, some (.inr (0, 24)))], [(58, 51, (0, 200), none)], 60, [(-1)], [((1, 58, 51), (0, 2, 0), 0, 176)]), (56, [(0, some (.inl (.ref 58))), (1, some (.inr (25, 25))), (2, some (.inr (0, 31)))], [(58, 51, (0, 200), none)], 60, [(-1)], [((1, 58, 51), (0, 2, 0), 0, 175)]), (56, [(0, some (.inl (.ref 58))), (1, some (.inr (26, 26))), (2, some (.inr (0, 31)))], [(58, 51, (0, 200), none)], 60, [(-1)], [((1, 58, 51), (0, 2, 0), 0, 174)]), (56, [(0, some (.inl (.ref 58))), (1, some (.inr (27, 27))), (2, some (.inr (0, 31)))], [(58, 51, (0, 200), none)], 60, [(-1)], [((1, 58, 51), (0, 2, 0), 0, 173)]), (56, [(0, some (.inl (.ref 58))), (1, some (.inr (28, 28))), (2, some (.inr (0, 31)))], [(58, 51, (0, 200), none)], 60, [(-1)], [((1, 58, 51), (0, 2, 0), 0, 172)]), (56, [(0, some (.inl (.ref 58))), (1, some (.inr (29, 29))), (2, some (.inr (0, 31)))], [(58, 51, (0, 200), none)], 60, [(-1)], [((1, 58, 51), (0, 2, 0), 0, 171)]), (56, [(0, some (.inl (.ref 58))), (1, some (.inr (30, 30))), (2, some (.inr (0, 31)))], [(58, 51, (0, 200), none)], 60, [(-1)], [((1, 58, 51), (0, 2, 0), 0, 170)]), (56, [(0, some (.inl (.ref 58))), (1, some (.inr (31, 31))), (2, some (.inr (0, 31)))], [(58, 51, (0, 200), none)], 60, [(-1)], [((1, 58, 51), (0, 2, 0), 0, 169)]), (56, [(0, some (.inl (.ref 58))), (1, some (.inr (32, 32))), (2, some (.inr (0, 32)))], [(58, 51, (0, 200), none)], 60, [(-1)], [((1, 58, 51), (0, 2, 0), 0, 168)]), (56, [(0, some (.inl (.ref 58))), (1, some (.inr (33, 33))), (2, some (.inr (0, 47)))], [(58, 51, (0, 200), none)], 60, [(-1)], [((1, 58, 51), (0, 2, 0), 0, 167)]), (56, [(0, some (.inl (.ref 58))), (1, some (.inr (34, 34))), (2, some (.inr (0, 47)))], [(58, 51, (0, 200), none)], 60, [(-1)], [((1, 58, 51), (0, 2, 0), 0, 166)]), (56, [(0, some (.inl (.ref 58))), (1, some (.inr (35, 35))), (2, some (.inr (0, 47)))], [(58, 51, (0, 200), none)], 60, [(-1)], [((1, 58, 51), (0, 2, 0), 0, 165)]), (56, [(0, some (.inl (.ref 58))), (1, some (.inr (36, 36))), (2, some (.inr (0, 47)))], [(58, 51, (0, 200), none)], 60, [(-1)], [((1, 58, 51), (0, 2, 0), 0, 164)]), (56, [(0, some (.inl (.ref 58))), (1, some (.inr (37, 37))), (2, some (.inr (0, 47)))], [(58, 51, (0, 200), none)], 60, [(-1)], [((1, 58, 51), (0, 2, 0), 0, 163)]), (56, [(0, some (.inl (.ref 58))), (1, some (.inr (38, 38))), (2, some (.inr (0, 47)))], [(58, 51, (0, 200), none)], 60, [(-1)], [((1, 58, 51), (0, 2, 0), 0, 162)]), (56, [(0, some (.inl (.ref 58))), (1, some (.inr (39, 39))), (2, some (.inr (0, 47)))], [(58, 51, (0, 200), none)], 60, [(-1)], [((1, 58, 51), (0, 2, 0), 0, 161)]), (56, [(0, some (.inl (.ref 58))), (1, some (.inr (40, 40))), (2, some (.inr (0, 47)))], [(58, 51, (0, 200), none)], 60, [(-1)], [((1, 58, 51), (0, 2, 0), 0, 160)]), (56, [(0, some (.inl (.ref 58))), (1, some (.inr (41, 41))), (2, some (.inr (0, 47)))], [(58, 51, (0, 200), none)], 60, [(-1)], [((1, 58, 51), (0, 2, 0), 0, 159)]), (56, [(0, some (.inl (.ref 58))), (1, some (.inr (42, 42))), (2, some (.inr (0, 47)))], [(58, 51, (0, 200), none)], 60, [(-1)], [((1, 58, 51), (0, 2, 0), 0, 158)]), (56, [(0, some (.inl (.ref 58))), (1, some (.inr (43, 43))), (2, some (.inr (0, 47)))], [(58, 51, (0, 200), none)], 60, [(-1)], [((1, 58, 51), (0, 2, 0), 0, 157)]), (56, [(0, some (.inl (.ref 58))), (1, some (.inr (44, 44))), (2, some (.inr (0, 47)))], [(58, 51, (0, 200), none)], 60, [(-1)], [((1, 58, 51), (0, 2, 0), 0, 156)]), (56, [(0, some (.inl (.ref 58))), (1, some (.inr (45, 45))), (2, some (.inr (0, 47)))], [(58, 51, (0, 200), none)], 60, [(-1)], [((1, 58, 51), (0, 2, 0), 0, 155)]), (56, [(0, some (.inl (.ref 58))), (1, some (.inr (46, 46))), (2, some (.inr (0, 47)))], [(58, 51, (0, 200), none)], 60, [(-1)], [((1, 58, 51), (0, 2, 0), 0, 154)]), (56, [(0, some (.inl (.ref 58))), (1, some (.inr (47, 47))), (2, some (.inr (0, 47)))], [(58, 51, (0, 200), none)], 60, [(-1)], [((1, 58, 51), (0, 2, 0), 0, 153)]), (56, [(0, some (.inl (.ref 58))), (1, some (.inr (48, 48))), (2, some (.inr (0, 48)))], [(58, 51, (0, 200), none)], 60, [(-1)], [((1, 58, 51), (0, 2, 0), 0, 152)]), (56, [(0, some (.inl (.ref 58))), (1, some (.inr (49, 49))), (2, some (.inr (0, 60)))], [(58, 51, (0, 200), none)], 60, [(-1)], [((1, 58, 51), (0, 2, 0), 0, 151)]), (56, [(0, some (.inl (.ref 58))), (1, some (.inr (50, 50))), (2, some (.inr (0, 60)))], [(58, 51, (0, 200), none)], 60, [(-1)], [((1, 58, 51), (0, 2, 0), 0, 150)]), (56, [(0, some (.inl (.ref 58))), (1, some (.inr (51, 51))), (2, some (.inr (0, 60)))], [(58, 51, (0, 200), none)], 60, [(-1)], [((1, 58, 51), (0, 2, 0), 0, 149)]), (56, [(0, some (.inl (.ref 58))), (1, some (.inr (52, 52))), (2, some (.inr (0, 60)))], [(58, 51, (0, 200), none)], 60, [(-1)], [((1, 58, 51), (0, 2, 0), 0, 148)]), (56, [(0, some (.inl (.ref 58))), (1, some (.inr (53, 53))), (2, some (.inr (0, 60)))], [(58, 51, (0, 200), none)], 60, [(-1)], [((1, 58, 51), (0, 2, 0), 0, 147)]), (56, [(0, some (.inl (.ref 58))), (1, some (.inr (54, 54))), (2, some (.inr (0, 60)))], [(58, 51, (0, 200), none)], 60, [(-1)], [((1, 58, 51), (0, 2, 0), 0, 146)]), (56, [(0, some (.inl (.ref 58))), (1, some (.inr (55, 55))), (2, some (.inr (0, 60)))], [(58, 51, (0, 200), none)], 60, [(-1)], [((1, 58, 51), (0, 2, 0), 0, 145)]), (56, [(0, some (.inl (.ref 58))), (1, some (.inr (56, 56))), (2, some (.inr (0, 60)))], [(58, 51, (0, 200), none)], 60, [(-1)], [((1, 58, 51), (0, 2, 0), 0, 144)]), (56, [(0, some (.inl (.ref 58))), (1, some (.inr (57, 57))), (2, some (.inr (0, 60)))], [(58, 51, (0, 200), none)], 60, [(-1)], [((1, 58, 51), (0, 2, 0), 0, 143)]), (56, [(0, some (.inl (.ref 58))), (1, some (.inr (58, 58))), (2, some (.inr (0, 60)))], [(58, 51, (0, 200), none)], 60, [(-1)], [((1, 58, 51), (0, 2, 0), 0, 142)]), (56, [(0, some (.inl (.ref 58))), (1, some (.inr (59, 59))), (2, some (.inr (0, 60)))], [(58, 51, (0, 200), none)], 60, [(-1)], [((1, 58, 51), (0, 2, 0), 0, 141)]), (56, [(0, some (.inl (.ref 58))), (1, some (.inr (60, 60))), (2, some (.inr (0, 60)))], [(58, 51, (0, 200), none)], 60, [(-1)], [((1, 58, 51), (0, 2, 0), 0, 140)])] [(0, 2, 0)] 37 = true := by decide +kernel
theorem ok_127 (hl0 : l.1.stackTraces = false) (hA : ∀ e ∈ ctA, cOk l pg RR SHF e) : ∀ e ∈ ct_127, cOk l pg RR SHF e := List.forall_mem_cons.mpr ⟨meth_ok pg_ok mtL_ok hl0 (ok_126 hl0 hA) ⟨by decide +kernel, by decide +kernel, by decide +kernel⟩ (by decide +kernel) ck_127, (ok_126 hl0 hA)⟩
/-- FullHouseModel.week -/
def en_128 : cE := (244, [some (.inl (.ref 58)), some (.inr ((-2147483648), 2147483647)), some (.inr ((-2147483648), 2147483647))], [], ([], [(58, 0)]), [(some (some (.inr ((-2147483648), 2147483647))), [])], [], 0, 0)
def ct_128 : List cE := en_128 :: ct_127
set_option maxRecDepth 100000 in
theorem ck_128 : mC pg RR SHF mtL ct_127 en_128 [(104, [(0, some (.inl (.ref 58))), (1, some (.inr (0, 199))), (2, some (.inr (1, 1))), (3, some (.inr ((-2147483648), 2147483647))), (4, some (.inr (0, 8)))], [], 8, [(-1)], [])] [(0, 4, 0)] 54 = true := by decide +kernel
theorem ok_128 (hl0 : l.1.stackTraces = false) (hA : ∀ e ∈ ctA, cOk l pg RR SHF e) : ∀ e ∈ ct_128, cOk l pg RR SHF e := List.forall_mem_cons.mpr ⟨meth_ok pg_ok mtL_ok hl0 (ok_127 hl0 hA) ⟨by decide +kernel, by decide +kernel, by decide +kernel⟩ (by decide +kernel) ck_128, (ok_127 hl0 hA)⟩
/-- FullHouseModel.knows -/
def en_129 : cE := (245, [some (.inl (.ref 58)), some (.inr ((-2147483648), 2147483647))], [], ([], [(58, 0)]), [(some (some (.inr (0, 255))), [])], [], 0, 0)
def ct_129 : List cE := en_129 :: ct_128
set_option maxRecDepth 100000 in
theorem ck_129 : mC pg RR SHF mtL ct_128 en_129 [] [] 34 = true := by decide +kernel
theorem ok_129 (hl0 : l.1.stackTraces = false) (hA : ∀ e ∈ ctA, cOk l pg RR SHF e) : ∀ e ∈ ct_129, cOk l pg RR SHF e := List.forall_mem_cons.mpr ⟨meth_ok pg_ok mtL_ok hl0 (ok_128 hl0 hA) ⟨by decide +kernel, by decide +kernel, by decide +kernel⟩ (by decide +kernel) ck_129, (ok_128 hl0 hA)⟩
/-- FullHouseModel.copies -/
def en_130 : cE := (192, [some (.inl (.ref 58)), some (.inl (.ref 85)), some (.inl (.ref 89))], [], ([89], []), [(none, [])], [], 0, 0)
def ct_130 : List cE := en_130 :: ct_129
set_option maxRecDepth 100000 in
theorem ck_130 : mC pg RR SHF mtL ct_129 en_130 [(2, [(0, some (.inl (.ref 58))), (1, some (.inl (.ref 85))), (2, some (.inl (.ref 89))), (3, some (.inr (0, 6)))], [], 6, [(-1)], [])] [(0, 3, 0)] 17 = true := by decide +kernel
theorem ok_130 (hl0 : l.1.stackTraces = false) (hA : ∀ e ∈ ctA, cOk l pg RR SHF e) : ∀ e ∈ ct_130, cOk l pg RR SHF e := List.forall_mem_cons.mpr ⟨meth_ok pg_ok mtL_ok hl0 (ok_129 hl0 hA) ⟨by decide +kernel, by decide +kernel, by decide +kernel⟩ (by decide +kernel) ck_130, (ok_129 hl0 hA)⟩
/-- FullHouseModel.copies -/
def en_131 : cE := (192, [some (.inl (.ref 58)), some (.inl (.ref 86)), some (.inl (.ref 90))], [], ([90], []), [(none, [])], [], 0, 0)
def ct_131 : List cE := en_131 :: ct_130
set_option maxRecDepth 100000 in
theorem ck_131 : mC pg RR SHF mtL ct_130 en_131 [(2, [(0, some (.inl (.ref 58))), (1, some (.inl (.ref 86))), (2, some (.inl (.ref 90))), (3, some (.inr (0, 48)))], [], 48, [(-1)], [])] [(0, 3, 0)] 17 = true := by decide +kernel
theorem ok_131 (hl0 : l.1.stackTraces = false) (hA : ∀ e ∈ ctA, cOk l pg RR SHF e) : ∀ e ∈ ct_131, cOk l pg RR SHF e := List.forall_mem_cons.mpr ⟨meth_ok pg_ok mtL_ok hl0 (ok_130 hl0 hA) ⟨by decide +kernel, by decide +kernel, by decide +kernel⟩ (by decide +kernel) ck_131, (ok_130 hl0 hA)⟩
/-- FullHouseModel.copies -/
def en_132 : cE := (192, [some (.inl (.ref 58)), some (.inl (.ref 87)), some (.inl (.ref 91))], [], ([91], []), [(none, [])], [], 0, 0)
def ct_132 : List cE := en_132 :: ct_131
set_option maxRecDepth 100000 in
theorem ck_132 : mC pg RR SHF mtL ct_131 en_132 [(2, [(0, some (.inl (.ref 58))), (1, some (.inl (.ref 87))), (2, some (.inl (.ref 91))), (3, some (.inr (0, 200)))], [], 200, [(-1)], [])] [(0, 3, 0)] 17 = true := by decide +kernel
theorem ok_132 (hl0 : l.1.stackTraces = false) (hA : ∀ e ∈ ctA, cOk l pg RR SHF e) : ∀ e ∈ ct_132, cOk l pg RR SHF e := List.forall_mem_cons.mpr ⟨meth_ok pg_ok mtL_ok hl0 (ok_131 hl0 hA) ⟨by decide +kernel, by decide +kernel, by decide +kernel⟩ (by decide +kernel) ck_132, (ok_131 hl0 hA)⟩
/-- FullHouseModel.copies -/
def en_133 : cE := (192, [some (.inl (.ref 58)), some (.inl (.ref 88)), some (.inl (.ref 92))], [], ([92], []), [(none, [])], [], 0, 0)
def ct_133 : List cE := en_133 :: ct_132
set_option maxRecDepth 100000 in
theorem ck_133 : mC pg RR SHF mtL ct_132 en_133 [(2, [(0, some (.inl (.ref 58))), (1, some (.inl (.ref 88))), (2, some (.inl (.ref 92))), (3, some (.inr (0, 4096)))], [], 4096, [(-1)], [])] [(0, 3, 0)] 17 = true := by decide +kernel
theorem ok_133 (hl0 : l.1.stackTraces = false) (hA : ∀ e ∈ ctA, cOk l pg RR SHF e) : ∀ e ∈ ct_133, cOk l pg RR SHF e := List.forall_mem_cons.mpr ⟨meth_ok pg_ok mtL_ok hl0 (ok_132 hl0 hA) ⟨by decide +kernel, by decide +kernel, by decide +kernel⟩ (by decide +kernel) ck_133, (ok_132 hl0 hA)⟩
/-- FullHouseModel.image -/
def en_134 : cE := (246, [some (.inl (.ref 58))], [], ([89, 90, 91, 92], [(58, 0), (58, 57), (58, 58), (58, 59)]), [(some (some (.inr (0, 1))), [])], [], 0, 0)
def ct_134 : List cE := en_134 :: ct_133
set_option maxRecDepth 100000 in
theorem ck_134 : mC pg RR SHF mtL ct_133 en_134 [] [] 49 = true := by decide +kernel
theorem ok_134 (hl0 : l.1.stackTraces = false) (hA : ∀ e ∈ ctA, cOk l pg RR SHF e) : ∀ e ∈ ct_134, cOk l pg RR SHF e := List.forall_mem_cons.mpr ⟨meth_ok pg_ok mtL_ok hl0 (ok_133 hl0 hA) ⟨by decide +kernel, by decide +kernel, by decide +kernel⟩ (by decide +kernel) ck_134, (ok_133 hl0 hA)⟩
/-- FullHouseModel.copies -/
def en_135 : cE := (192, [some (.inl (.ref 58)), some (.inl (.ref 89)), some (.inl (.ref 85))], [], ([85], []), [(none, [])], [], 0, 0)
def ct_135 : List cE := en_135 :: ct_134
set_option maxRecDepth 100000 in
theorem ck_135 : mC pg RR SHF mtL ct_134 en_135 [(2, [(0, some (.inl (.ref 58))), (1, some (.inl (.ref 89))), (2, some (.inl (.ref 85))), (3, some (.inr (0, 6)))], [], 6, [(-1)], [])] [(0, 3, 0)] 17 = true := by decide +kernel
theorem ok_135 (hl0 : l.1.stackTraces = false) (hA : ∀ e ∈ ctA, cOk l pg RR SHF e) : ∀ e ∈ ct_135, cOk l pg RR SHF e := List.forall_mem_cons.mpr ⟨meth_ok pg_ok mtL_ok hl0 (ok_134 hl0 hA) ⟨by decide +kernel, by decide +kernel, by decide +kernel⟩ (by decide +kernel) ck_135, (ok_134 hl0 hA)⟩
/-- FullHouseModel.copies -/
def en_136 : cE := (192, [some (.inl (.ref 58)), some (.inl (.ref 90)), some (.inl (.ref 86))], [], ([86], []), [(none, [])], [], 0, 0)
def ct_136 : List cE := en_136 :: ct_135
set_option maxRecDepth 100000 in
theorem ck_136 : mC pg RR SHF mtL ct_135 en_136 [(2, [(0, some (.inl (.ref 58))), (1, some (.inl (.ref 90))), (2, some (.inl (.ref 86))), (3, some (.inr (0, 48)))], [], 48, [(-1)], [])] [(0, 3, 0)] 17 = true := by decide +kernel
theorem ok_136 (hl0 : l.1.stackTraces = false) (hA : ∀ e ∈ ctA, cOk l pg RR SHF e) : ∀ e ∈ ct_136, cOk l pg RR SHF e := List.forall_mem_cons.mpr ⟨meth_ok pg_ok mtL_ok hl0 (ok_135 hl0 hA) ⟨by decide +kernel, by decide +kernel, by decide +kernel⟩ (by decide +kernel) ck_136, (ok_135 hl0 hA)⟩
/-- FullHouseModel.copies -/
def en_137 : cE := (192, [some (.inl (.ref 58)), some (.inl (.ref 91)), some (.inl (.ref 87))], [], ([87], []), [(none, [])], [], 0, 0)
def ct_137 : List cE := en_137 :: ct_136
set_option maxRecDepth 100000 in
theorem ck_137 : mC pg RR SHF mtL ct_136 en_137 [(2, [(0, some (.inl (.ref 58))), (1, some (.inl (.ref 91))), (2, some (.inl (.ref 87))), (3, some (.inr (0, 200)))], [], 200, [(-1)], [])] [(0, 3, 0)] 17 = true := by decide +kernel
theorem ok_137 (hl0 : l.1.stackTraces = false) (hA : ∀ e ∈ ctA, cOk l pg RR SHF e) : ∀ e ∈ ct_137, cOk l pg RR SHF e := List.forall_mem_cons.mpr ⟨meth_ok pg_ok mtL_ok hl0 (ok_136 hl0 hA) ⟨by decide +kernel, by decide +kernel, by decide +kernel⟩ (by decide +kernel) ck_137, (ok_136 hl0 hA)⟩
/-- FullHouseModel.copies -/
def en_138 : cE := (192, [some (.inl (.ref 58)), some (.inl (.ref 92)), some (.inl (.ref 88))], [], ([88], []), [(none, [])], [], 0, 0)
def ct_138 : List cE := en_138 :: ct_137
set_option maxRecDepth 100000 in
theorem ck_138 : mC pg RR SHF mtL ct_137 en_138 [(2, [(0, some (.inl (.ref 58))), (1, some (.inl (.ref 92))), (2, some (.inl (.ref 88))), (3, some (.inr (0, 4096)))], [], 4096, [(-1)], [])] [(0, 3, 0)] 17 = true := by decide +kernel
theorem ok_138 (hl0 : l.1.stackTraces = false) (hA : ∀ e ∈ ctA, cOk l pg RR SHF e) : ∀ e ∈ ct_138, cOk l pg RR SHF e := List.forall_mem_cons.mpr ⟨meth_ok pg_ok mtL_ok hl0 (ok_137 hl0 hA) ⟨by decide +kernel, by decide +kernel, by decide +kernel⟩ (by decide +kernel) ck_138, (ok_137 hl0 hA)⟩
/-- FullHouseModel.restore -/
def en_139 : cE := (247, [some (.inl (.ref 58))], [], ([85, 86, 87, 88], [(58, 0), (58, 51), (58, 52)]), [(some (some (.inr (0, 1))), [])], [], 0, 0)
def ct_139 : List cE := en_139 :: ct_138
set_option maxRecDepth 100000 in
theorem ck_139 : mC pg RR SHF mtL ct_138 en_139 [] [] 45 = true := by decide +kernel
theorem ok_139 (hl0 : l.1.stackTraces = false) (hA : ∀ e ∈ ctA, cOk l pg RR SHF e) : ∀ e ∈ ct_139, cOk l pg RR SHF e := List.forall_mem_cons.mpr ⟨meth_ok pg_ok mtL_ok hl0 (ok_138 hl0 hA) ⟨by decide +kernel, by decide +kernel, by decide +kernel⟩ (by decide +kernel) ck_139, (ok_138 hl0 hA)⟩
/-- FullHouseModel.copies -/
def en_140 : cE := (192, [some (.inl (.ref 58)), some (.inl (.ref 67)), some (.inl (.ref 59))], [], ([59], []), [(none, [])], [], 0, 0)
def ct_140 : List cE := en_140 :: ct_139
set_option maxRecDepth 100000 in
theorem ck_140 : mC pg RR SHF mtL ct_139 en_140 [(2, [(0, some (.inl (.ref 58))), (1, some (.inl (.ref 67))), (2, some (.inl (.ref 59))), (3, some (.inr (0, 6)))], [], 6, [(-1)], [])] [(0, 3, 0)] 17 = true := by decide +kernel
theorem ok_140 (hl0 : l.1.stackTraces = false) (hA : ∀ e ∈ ctA, cOk l pg RR SHF e) : ∀ e ∈ ct_140, cOk l pg RR SHF e := List.forall_mem_cons.mpr ⟨meth_ok pg_ok mtL_ok hl0 (ok_139 hl0 hA) ⟨by decide +kernel, by decide +kernel, by decide +kernel⟩ (by decide +kernel) ck_140, (ok_139 hl0 hA)⟩
/-- FullHouseModel.copies -/
def en_141 : cE := (192, [some (.inl (.ref 58)), some (.inl (.ref 68)), some (.inl (.ref 60))], [], ([60], []), [(none, [])], [], 0, 0)
def ct_141 : List cE := en_141 :: ct_140
set_option maxRecDepth 100000 in
theorem ck_141 : mC pg RR SHF mtL ct_140 en_141 [(2, [(0, some (.inl (.ref 58))), (1, some (.inl (.ref 68))), (2, some (.inl (.ref 60))), (3, some (.inr (0, 6)))], [], 6, [(-1)], [])] [(0, 3, 0)] 17 = true := by decide +kernel
theorem ok_141 (hl0 : l.1.stackTraces = false) (hA : ∀ e ∈ ctA, cOk l pg RR SHF e) : ∀ e ∈ ct_141, cOk l pg RR SHF e := List.forall_mem_cons.mpr ⟨meth_ok pg_ok mtL_ok hl0 (ok_140 hl0 hA) ⟨by decide +kernel, by decide +kernel, by decide +kernel⟩ (by decide +kernel) ck_141, (ok_140 hl0 hA)⟩
/-- FullHouseModel.copies -/
def en_142 : cE := (192, [some (.inl (.ref 58)), some (.inl (.ref 69)), some (.inl (.ref 61))], [], ([61], []), [(none, [])], [], 0, 0)
def ct_142 : List cE := en_142 :: ct_141
set_option maxRecDepth 100000 in
theorem ck_142 : mC pg RR SHF mtL ct_141 en_142 [(2, [(0, some (.inl (.ref 58))), (1, some (.inl (.ref 69))), (2, some (.inl (.ref 61))), (3, some (.inr (0, 8)))], [], 8, [(-1)], [])] [(0, 3, 0)] 17 = true := by decide +kernel
theorem ok_142 (hl0 : l.1.stackTraces = false) (hA : ∀ e ∈ ctA, cOk l pg RR SHF e) : ∀ e ∈ ct_142, cOk l pg RR SHF e := List.forall_mem_cons.mpr ⟨meth_ok pg_ok mtL_ok hl0 (ok_141 hl0 hA) ⟨by decide +kernel, by decide +kernel, by decide +kernel⟩ (by decide +kernel) ck_142, (ok_141 hl0 hA)⟩
/-- FullHouseModel.copies -/
def en_143 : cE := (192, [some (.inl (.ref 58)), some (.inl (.ref 70)), some (.inl (.ref 62))], [], ([62], []), [(none, [])], [], 0, 0)
def ct_143 : List cE := en_143 :: ct_142
set_option maxRecDepth 100000 in
theorem ck_143 : mC pg RR SHF mtL ct_142 en_143 [(2, [(0, some (.inl (.ref 58))), (1, some (.inl (.ref 70))), (2, some (.inl (.ref 62))), (3, some (.inr (0, 8)))], [], 8, [(-1)], [])] [(0, 3, 0)] 17 = true := by decide +kernel
theorem ok_143 (hl0 : l.1.stackTraces = false) (hA : ∀ e ∈ ctA, cOk l pg RR SHF e) : ∀ e ∈ ct_143, cOk l pg RR SHF e := List.forall_mem_cons.mpr ⟨meth_ok pg_ok mtL_ok hl0 (ok_142 hl0 hA) ⟨by decide +kernel, by decide +kernel, by decide +kernel⟩ (by decide +kernel) ck_143, (ok_142 hl0 hA)⟩
/-- FullHouseModel.copies -/
def en_144 : cE := (192, [some (.inl (.ref 58)), some (.inl (.ref 71)), some (.inl (.ref 63))], [], ([63], []), [(none, [])], [], 0, 0)
def ct_144 : List cE := en_144 :: ct_143
set_option maxRecDepth 100000 in
theorem ck_144 : mC pg RR SHF mtL ct_143 en_144 [(2, [(0, some (.inl (.ref 58))), (1, some (.inl (.ref 71))), (2, some (.inl (.ref 63))), (3, some (.inr (0, 48)))], [], 48, [(-1)], [])] [(0, 3, 0)] 17 = true := by decide +kernel
theorem ok_144 (hl0 : l.1.stackTraces = false) (hA : ∀ e ∈ ctA, cOk l pg RR SHF e) : ∀ e ∈ ct_144, cOk l pg RR SHF e := List.forall_mem_cons.mpr ⟨meth_ok pg_ok mtL_ok hl0 (ok_143 hl0 hA) ⟨by decide +kernel, by decide +kernel, by decide +kernel⟩ (by decide +kernel) ck_144, (ok_143 hl0 hA)⟩
/-- FullHouseModel.copies -/
def en_145 : cE := (192, [some (.inl (.ref 58)), some (.inl (.ref 72)), some (.inl (.ref 64))], [], ([64], []), [(none, [])], [], 0, 0)
def ct_145 : List cE := en_145 :: ct_144
set_option maxRecDepth 100000 in
theorem ck_145 : mC pg RR SHF mtL ct_144 en_145 [(2, [(0, some (.inl (.ref 58))), (1, some (.inl (.ref 72))), (2, some (.inl (.ref 64))), (3, some (.inr (0, 32)))], [], 32, [(-1)], [])] [(0, 3, 0)] 17 = true := by decide +kernel
theorem ok_145 (hl0 : l.1.stackTraces = false) (hA : ∀ e ∈ ctA, cOk l pg RR SHF e) : ∀ e ∈ ct_145, cOk l pg RR SHF e := List.forall_mem_cons.mpr ⟨meth_ok pg_ok mtL_ok hl0 (ok_144 hl0 hA) ⟨by decide +kernel, by decide +kernel, by decide +kernel⟩ (by decide +kernel) ck_145, (ok_144 hl0 hA)⟩
/-- FullHouseModel.house -/
def en_146 : cE := (174, [some (.inl (.ref 58)), some (.inr ((-2147483648), 2147483647))], [], ([59, 60, 61, 62, 63, 64, 66, 67, 68, 69, 70, 71, 72, 81], [(58, 0), (58, 1), (58, 2), (58, 3), (58, 4), (58, 12), (58, 13), (58, 14), (58, 16), (58, 17), (58, 18), (58, 19), (58, 20), (58, 21), (58, 23), (58, 24), (58, 25), (58, 26), (58, 27), (58, 28), (58, 35), (58, 36), (58, 45), (58, 51), (58, 57)]), [(some (some (.inr (0, 5))), [])], [], 0, 0)
def ct_146 : List cE := en_146 :: ct_145
set_option maxRecDepth 100000 in
theorem ck_146 : mC pg RR SHF mtL ct_145 en_146 [(91, [(0, some (.inl (.ref 58))), (1, some (.inr (0, 800)))], [(58, 13, (0, 0), none), (58, 17, (0, 800), none), (58, 18, (0, 4), none)], 1610, [0, (-2)], []), (91, [(0, some (.inl (.ref 58))), (1, some (.inr (0, 800)))], [(58, 13, (1, 5), none), (58, 17, (0, 800), none), (58, 18, (0, 4), none)], 1609, [0, (-2)], []), (240, [(0, some (.inl (.ref 58))), (1, some (.inr (0, 800))), (2, some (.inr (0, 8)))], [(58, 13, (0, 0), none), (58, 17, (0, 800), none), (58, 18, (0, 0), none)], 8, [(-1), 0], [])] [(0, 2, 0), (1, 58, 17)] 68 = true := by decide +kernel
theorem ok_146 (hl0 : l.1.stackTraces = false) (hA : ∀ e ∈ ctA, cOk l pg RR SHF e) : ∀ e ∈ ct_146, cOk l pg RR SHF e := List.forall_mem_cons.mpr ⟨meth_ok pg_ok mtL_ok hl0 (ok_145 hl0 hA) ⟨by decide +kernel, by decide +kernel, by decide +kernel⟩ (by decide +kernel) ck_146, (ok_145 hl0 hA)⟩
/-- FullHouseModel.boundOf -/
def en_147 : cE := (225, [some (.inl (.ref 58)), some (.inr (3, 3))], [], ([], []), [(some (some (.inr ((-2147483648), 2147483647))), [])], [], 0, 0)
def ct_147 : List cE := en_147 :: ct_146
set_option maxRecDepth 100000 in
theorem ck_147 : mC pg RR SHF mtL ct_146 en_147 [(4, [(0, some (.inl (.ref 58))), (1, some (.inr (3, 3))), (2, some (.inr ((-2147483648), 2147483647))), (3, some (.inr (0, 8)))], [], 386547056711, [(-42949672968), 0, 0, 0], []), (18, [(0, some (.inl (.ref 58))), (1, some (.inr (3, 3))), (2, some (.inr ((-2147483648), 2147483647))), (3, some (.inr (0, 7))), (4, some (.inr ((-2147483648), 2147483647))), (5, some (.inr (0, 6)))], [], 386547056710, [(-42949672968), 0, (-1), 0], []), (61, [(0, some (.inl (.ref 58))), (1, some (.inr (3, 3))), (2, some (.inr ((-2147483648), 2147483647))), (3, some (.inr (0, 7))), (4, some (.inr ((-2147483648), 2147483647))), (5, some (.inr (0, 255)))], [], 365072220233, [(-42949672968), 10, 0, 0], []), (72, [(0, some (.inl (.ref 58))), (1, some (.inr (3, 3))), (2, some (.inr ((-2147483648), 2147483647))), (3, some (.inr (0, 7))), (4, some (.inr (1, 2147483647))), (5, some (.inr (0, 255))), (6, some (.inr ((-1), 7))), (7, some (.inr (0, 8)))], [], 365072220232, [(-42949672968), 10, 0, (-1)], [])] [(0, 3, 0), (0, 4, 0), (0, 5, 0), (0, 7, 0)] 50 = true := by decide +kernel
theorem ok_147 (hl0 : l.1.stackTraces = false) (hA : ∀ e ∈ ctA, cOk l pg RR SHF e) : ∀ e ∈ ct_147, cOk l pg RR SHF e := List.forall_mem_cons.mpr ⟨meth_ok pg_ok mtL_ok hl0 (ok_146 hl0 hA) ⟨by decide +kernel, by decide +kernel, by decide +kernel⟩ (by decide +kernel) ck_147, (ok_146 hl0 hA)⟩
/-- FullHouseModel.boundOf -/
def en_148 : cE := (225, [some (.inl (.ref 58)), some (.inr (2, 2))], [], ([], []), [(some (some (.inr ((-2147483648), 2147483647))), [])], [], 0, 0)
def ct_148 : List cE := en_148 :: ct_147
set_option maxRecDepth 100000 in
theorem ck_148 : mC pg RR SHF mtL ct_147 en_148 [(4, [(0, some (.inl (.ref 58))), (1, some (.inr (2, 2))), (2, some (.inr ((-2147483648), 2147483647))), (3, some (.inr (0, 8)))], [], 386547056711, [(-42949672968), 0, 0, 0], []), (18, [(0, some (.inl (.ref 58))), (1, some (.inr (2, 2))), (2, some (.inr ((-2147483648), 2147483647))), (3, some (.inr (0, 7))), (4, some (.inr ((-2147483648), 2147483647))), (5, some (.inr (0, 6)))], [], 386547056710, [(-42949672968), 0, (-1), 0], []), (61, [(0, some (.inl (.ref 58))), (1, some (.inr (2, 2))), (2, some (.inr ((-2147483648), 2147483647))), (3, some (.inr (0, 7))), (4, some (.inr ((-2147483648), 2147483647))), (5, some (.inr (0, 255)))], [], 365072220233, [(-42949672968), 10, 0, 0], []), (72, [(0, some (.inl (.ref 58))), (1, some (.inr (2, 2))), (2, some (.inr ((-2147483648), 2147483647))), (3, some (.inr (0, 7))), (4, some (.inr (1, 2147483647))), (5, some (.inr (0, 255))), (6, some (.inr ((-1), 7))), (7, some (.inr (0, 8)))], [], 365072220232, [(-42949672968), 10, 0, (-1)], [])] [(0, 3, 0), (0, 4, 0), (0, 5, 0), (0, 7, 0)] 50 = true := by decide +kernel
theorem ok_148 (hl0 : l.1.stackTraces = false) (hA : ∀ e ∈ ctA, cOk l pg RR SHF e) : ∀ e ∈ ct_148, cOk l pg RR SHF e := List.forall_mem_cons.mpr ⟨meth_ok pg_ok mtL_ok hl0 (ok_147 hl0 hA) ⟨by decide +kernel, by decide +kernel, by decide +kernel⟩ (by decide +kernel) ck_148, (ok_147 hl0 hA)⟩
/-- FullHouseModel.holds -/
def en_149 : cE := (223, [some (.inl (.ref 58)), some (.inr (0, 1))], [], ([76, 77, 78], []), [(some (some (.inr (0, 1))), [])], [], 0, 0)
def ct_149 : List cE := en_149 :: ct_148
set_option maxRecDepth 100000 in
theorem ck_149 : mC pg RR SHF mtL ct_148 en_149 [(11, [(0, some (.inl (.ref 58))), (1, some (.inr (0, 1))), (2, some (.inr (0, 63))), (3, some (.inr (0, 6)))], [], 48, [(-7), 0], []), (50, [(0, some (.inl (.ref 58))), (1, some (.inr (0, 1))), (2, some (.inr (0, 63))), (3, some (.inr (0, 5))), (4, some (.inr (0, 5)))], [], 47, [(-7), (-1)], [])] [(0, 3, 0), (0, 4, 0)] 43 = true := by decide +kernel
theorem ok_149 (hl0 : l.1.stackTraces = false) (hA : ∀ e ∈ ctA, cOk l pg RR SHF e) : ∀ e ∈ ct_149, cOk l pg RR SHF e := List.forall_mem_cons.mpr ⟨meth_ok pg_ok mtL_ok hl0 (ok_148 hl0 hA) ⟨by decide +kernel, by decide +kernel, by decide +kernel⟩ (by decide +kernel) ck_149, (ok_148 hl0 hA)⟩
/-- FullHouseModel.listsOf -/
def en_150 : cE := (205, [some (.inl (.ref 58)), some (.inr (1, 1)), some (.inr ((-2147483648), 2147483647))], [], ([73, 74], []), [(none, [])], [], 0, 0)
def ct_150 : List cE := en_150 :: ct_149
set_option maxRecDepth 100000 in
theorem ck_150 : mC pg RR SHF mtL ct_149 en_150 [(9, [(0, some (.inl (.ref 58))), (1, some (.inr (1, 1))), (2, some (.inr ((-2147483648), 2147483647))), (3, some (.inr (0, 256)))], [(74, 1, (0, 256), none)], 256, [(-1)], [((1, 74, 1), (0, 3, 0), (-256), 0)])] [(0, 3, 0)] 47 = true := by decide +kernel
theorem ok_150 (hl0 : l.1.stackTraces = false) (hA : ∀ e ∈ ctA, cOk l pg RR SHF e) : ∀ e ∈ ct_150, cOk l pg RR SHF e := List.forall_mem_cons.mpr ⟨meth_ok pg_ok mtL_ok hl0 (ok_149 hl0 hA) ⟨by decide +kernel, by decide +kernel, by decide +kernel⟩ (by decide +kernel) ck_150, (ok_149 hl0 hA)⟩
/-- FullHouseModel.listsOf -/
def en_151 : cE := (205, [some (.inl (.ref 58)), some (.inr (0, 0)), some (.inr ((-2147483648), 2147483647))], [], ([73, 74], []), [(none, [])], [], 0, 0)
def ct_151 : List cE := en_151 :: ct_150
set_option maxRecDepth 100000 in
theorem ck_151 : mC pg RR SHF mtL ct_150 en_151 [(9, [(0, some (.inl (.ref 58))), (1, some (.inr (0, 0))), (2, some (.inr ((-2147483648), 2147483647))), (3, some (.inr (0, 256)))], [(74, 0, (0, 256), none)], 256, [(-1)], [((1, 74, 0), (0, 3, 0), (-256), 0)])] [(0, 3, 0)] 47 = true := by decide +kernel
theorem ok_151 (hl0 : l.1.stackTraces = false) (hA : ∀ e ∈ ctA, cOk l pg RR SHF e) : ∀ e ∈ ct_151, cOk l pg RR SHF e := List.forall_mem_cons.mpr ⟨meth_ok pg_ok mtL_ok hl0 (ok_150 hl0 hA) ⟨by decide +kernel, by decide +kernel, by decide +kernel⟩ (by decide +kernel) ck_151, (ok_150 hl0 hA)⟩
/-- FullHouseModel.listsOf -/
def en_152 : cE := (205, [some (.inl (.ref 58)), some (.inr (2, 2)), some (.inr ((-2147483648), 2147483647))], [], ([73, 74], []), [(none, [])], [], 0, 0)
def ct_152 : List cE := en_152 :: ct_151
set_option maxRecDepth 100000 in
theorem ck_152 : mC pg RR SHF mtL ct_151 en_152 [(9, [(0, some (.inl (.ref 58))), (1, some (.inr (2, 2))), (2, some (.inr ((-2147483648), 2147483647))), (3, some (.inr (0, 256)))], [(74, 2, (0, 256), none)], 256, [(-1)], [((1, 74, 2), (0, 3, 0), (-256), 0)])] [(0, 3, 0)] 47 = true := by decide +kernel
theorem ok_152 (hl0 : l.1.stackTraces = false) (hA : ∀ e ∈ ctA, cOk l pg RR SHF e) : ∀ e ∈ ct_152, cOk l pg RR SHF e := List.forall_mem_cons.mpr ⟨meth_ok pg_ok mtL_ok hl0 (ok_151 hl0 hA) ⟨by decide +kernel, by decide +kernel, by decide +kernel⟩ (by decide +kernel) ck_152, (ok_151 hl0 hA)⟩
/-- FullHouseModel.listsOf -/
def en_153 : cE := (205, [some (.inl (.ref 58)), some (.inr (3, 3)), some (.inr ((-2147483648), 2147483647))], [], ([73, 74], []), [(none, [])], [], 0, 0)
def ct_153 : List cE := en_153 :: ct_152
set_option maxRecDepth 100000 in
theorem ck_153 : mC pg RR SHF mtL ct_152 en_153 [(9, [(0, some (.inl (.ref 58))), (1, some (.inr (3, 3))), (2, some (.inr ((-2147483648), 2147483647))), (3, some (.inr (0, 256)))], [(74, 3, (0, 256), none)], 256, [(-1)], [((1, 74, 3), (0, 3, 0), (-256), 0)])] [(0, 3, 0)] 47 = true := by decide +kernel
theorem ok_153 (hl0 : l.1.stackTraces = false) (hA : ∀ e ∈ ctA, cOk l pg RR SHF e) : ∀ e ∈ ct_153, cOk l pg RR SHF e := List.forall_mem_cons.mpr ⟨meth_ok pg_ok mtL_ok hl0 (ok_152 hl0 hA) ⟨by decide +kernel, by decide +kernel, by decide +kernel⟩ (by decide +kernel) ck_153, (ok_152 hl0 hA)⟩
/-- FullHouseModel.listsOf -/
def en_154 : cE := (205, [some (.inl (.ref 58)), some (.inr (4, 4)), some (.inr ((-2147483648), 2147483647))], [], ([73, 74], []), [(none, [])], [], 0, 0)
def ct_154 : List cE := en_154 :: ct_153
set_option maxRecDepth 100000 in
theorem ck_154 : mC pg RR SHF mtL ct_153 en_154 [(9, [(0, some (.inl (.ref 58))), (1, some (.inr (4, 4))), (2, some (.inr ((-2147483648), 2147483647))), (3, some (.inr (0, 256)))], [(74, 4, (0, 256), none)], 256, [(-1)], [((1, 74, 4), (0, 3, 0), (-256), 0)])] [(0, 3, 0)] 47 = true := by decide +kernel
theorem ok_154 (hl0 : l.1.stackTraces = false) (hA : ∀ e ∈ ctA, cOk l pg RR SHF e) : ∀ e ∈ ct_154, cOk l pg RR SHF e := List.forall_mem_cons.mpr ⟨meth_ok pg_ok mtL_ok hl0 (ok_153 hl0 hA) ⟨by decide +kernel, by decide +kernel, by decide +kernel⟩ (by decide +kernel) ck_154, (ok_153 hl0 hA)⟩
/-- FullHouseModel.listsOf -/
def en_155 : cE := (205, [some (.inl (.ref 58)), some (.inr (5, 5)), some (.inr ((-2147483648), 2147483647))], [], ([73, 74], []), [(none, [])], [], 0, 0)
def ct_155 : List cE := en_155 :: ct_154
set_option maxRecDepth 100000 in
theorem ck_155 : mC pg RR SHF mtL ct_154 en_155 [(9, [(0, some (.inl (.ref 58))), (1, some (.inr (5, 5))), (2, some (.inr ((-2147483648), 2147483647))), (3, some (.inr (0, 256)))], [(74, 5, (0, 256), none)], 256, [(-1)], [((1, 74, 5), (0, 3, 0), (-256), 0)])] [(0, 3, 0)] 47 = true := by decide +kernel
theorem ok_155 (hl0 : l.1.stackTraces = false) (hA : ∀ e ∈ ctA, cOk l pg RR SHF e) : ∀ e ∈ ct_155, cOk l pg RR SHF e := List.forall_mem_cons.mpr ⟨meth_ok pg_ok mtL_ok hl0 (ok_154 hl0 hA) ⟨by decide +kernel, by decide +kernel, by decide +kernel⟩ (by decide +kernel) ck_155, (ok_154 hl0 hA)⟩
/-- FullHouseModel.pains -/
def en_156 : cE := (226, [some (.inl (.ref 58)), some (.inr (0, 255))], [], ([], []), [(some (some (.inr ((-2147483648), 2147483647))), [])], [], 0, 0)
def ct_156 : List cE := en_156 :: ct_155
set_option maxRecDepth 100000 in
theorem ck_156 : mC pg RR SHF mtL ct_155 en_156 [(4, [(0, some (.inl (.ref 58))), (1, some (.inr (0, 255))), (2, some (.inr ((-2147483648), 2147483647))), (3, some (.inr (0, 8)))], [], 8, [(-1)], [])] [(0, 3, 0)] 30 = true := by decide +kernel
theorem ok_156 (hl0 : l.1.stackTraces = false) (hA : ∀ e ∈ ctA, cOk l pg RR SHF e) : ∀ e ∈ ct_156, cOk l pg RR SHF e := List.forall_mem_cons.mpr ⟨meth_ok pg_ok mtL_ok hl0 (ok_155 hl0 hA) ⟨by decide +kernel, by decide +kernel, by decide +kernel⟩ (by decide +kernel) ck_156, (ok_155 hl0 hA)⟩
/-- FullHouseModel.listsAll -/
def en_157 : cE := (204, [some (.inl (.ref 58)), some (.inr (0, 255))], [], ([73, 74, 75], []), [(none, [])], [], 0, 0)
def ct_157 : List cE := en_157 :: ct_156
set_option maxRecDepth 100000 in
theorem ck_157 : mC pg RR SHF mtL ct_156 en_157 [(2, [(0, some (.inl (.ref 58))), (1, some (.inr (0, 255))), (2, some (.inr (0, 6)))], [], 132, [(-19), 0], []), (15, [(0, some (.inl (.ref 58))), (1, some (.inr (0, 255))), (2, some (.inr (0, 5))), (3, some (.inr (0, 255))), (4, some (.inr (0, 8)))], [], 131, [(-19), (-1)], []), (83, [(0, some (.inl (.ref 58))), (1, some (.inr (0, 255))), (2, some (.inr (0, 5))), (3, some (.inr ((-2147483648), 2147483647))), (4, some (.inr (0, 8)))], [], 122, [(-19), (-1)], [])] [(0, 2, 0), (0, 4, 0)] 43 = true := by decide +kernel
theorem ok_157 (hl0 : l.1.stackTraces = false) (hA : ∀ e ∈ ctA, cOk l pg RR SHF e) : ∀ e ∈ ct_157, cOk l pg RR SHF e := List.forall_mem_cons.mpr ⟨meth_ok pg_ok mtL_ok hl0 (ok_156 hl0 hA) ⟨by decide +kernel, by decide +kernel, by decide +kernel⟩ (by decide +kernel) ck_157, (ok_156 hl0 hA)⟩
/-- FullHouseModel.learn -/
def en_158 : cE := (224, [some (.inl (.ref 58)), some (.inr (0, 1)), some (.inr ((-2147483648), 2147483647))], [], ([73, 74, 75, 76, 77, 78], [(58, 0)]), [(some (some (.inr ((-2147483648), 2147483647))), [])], [], 0, 0)
def ct_158 : List cE := en_158 :: ct_157
set_option maxRecDepth 100000 in
theorem ck_158 : mC pg RR SHF mtL ct_157 en_158 [(45, [(0, some (.inl (.ref 58))), (1, some (.inr (0, 1))), (2, some (.inr (0, 1))), (3, some (.inr ((-1), 255))), (4, some (.inr (0, 256)))], [], 256, [(-1)], [])] [(0, 4, 0)] 32 = true := by decide +kernel
theorem ok_158 (hl0 : l.1.stackTraces = false) (hA : ∀ e ∈ ctA, cOk l pg RR SHF e) : ∀ e ∈ ct_158, cOk l pg RR SHF e := List.forall_mem_cons.mpr ⟨meth_ok pg_ok mtL_ok hl0 (ok_157 hl0 hA) ⟨by decide +kernel, by decide +kernel, by decide +kernel⟩ (by decide +kernel) ck_158, (ok_157 hl0 hA)⟩
/-- Arrays.fill -/
def en_159 : cE := (12, [some (.inl (.ref 20)), some (.inr (0, 0))], [], ([20], []), [(none, [])], [], 0, 0)
def ct_159 : List cE := en_159 :: ct_158
set_option maxRecDepth 100000 in
theorem ck_159 : mC pg RR SHF mtL ct_158 en_159 [(5, [(0, some (.inl (.ref 20))), (1, some (.inr (0, 0))), (2, some (.inr (0, 6))), (3, some (.inr (6, 6)))], [], 6, [(-1)], [])] [(0, 2, 0)] 14 = true := by decide +kernel
theorem ok_159 (hl0 : l.1.stackTraces = false) (hA : ∀ e ∈ ctA, cOk l pg RR SHF e) : ∀ e ∈ ct_159, cOk l pg RR SHF e := List.forall_mem_cons.mpr ⟨meth_ok pg_ok mtL_ok hl0 (ok_158 hl0 hA) ⟨by decide +kernel, by decide +kernel, by decide +kernel⟩ (by decide +kernel) ck_159, (ok_158 hl0 hA)⟩
/-- Arrays.fill -/
def en_160 : cE := (12, [some (.inl (.ref 21)), some (.inr (0, 0))], [], ([21], []), [(none, [])], [], 0, 0)
def ct_160 : List cE := en_160 :: ct_159
set_option maxRecDepth 100000 in
theorem ck_160 : mC pg RR SHF mtL ct_159 en_160 [(5, [(0, some (.inl (.ref 21))), (1, some (.inr (0, 0))), (2, some (.inr (0, 6))), (3, some (.inr (6, 6)))], [], 6, [(-1)], [])] [(0, 2, 0)] 14 = true := by decide +kernel
theorem ok_160 (hl0 : l.1.stackTraces = false) (hA : ∀ e ∈ ctA, cOk l pg RR SHF e) : ∀ e ∈ ct_160, cOk l pg RR SHF e := List.forall_mem_cons.mpr ⟨meth_ok pg_ok mtL_ok hl0 (ok_159 hl0 hA) ⟨by decide +kernel, by decide +kernel, by decide +kernel⟩ (by decide +kernel) ck_160, (ok_159 hl0 hA)⟩
/-- Arrays.fill -/
def en_161 : cE := (12, [some (.inl (.ref 24)), some (.inr (0, 0))], [], ([24], []), [(none, [])], [], 0, 0)
def ct_161 : List cE := en_161 :: ct_160
set_option maxRecDepth 100000 in
theorem ck_161 : mC pg RR SHF mtL ct_160 en_161 [(5, [(0, some (.inl (.ref 24))), (1, some (.inr (0, 0))), (2, some (.inr (0, 8))), (3, some (.inr (8, 8)))], [], 8, [(-1)], [])] [(0, 2, 0)] 14 = true := by decide +kernel
theorem ok_161 (hl0 : l.1.stackTraces = false) (hA : ∀ e ∈ ctA, cOk l pg RR SHF e) : ∀ e ∈ ct_161, cOk l pg RR SHF e := List.forall_mem_cons.mpr ⟨meth_ok pg_ok mtL_ok hl0 (ok_160 hl0 hA) ⟨by decide +kernel, by decide +kernel, by decide +kernel⟩ (by decide +kernel) ck_161, (ok_160 hl0 hA)⟩
/-- Arrays.fill -/
def en_162 : cE := (12, [some (.inl (.ref 25)), some (.inr (0, 0))], [], ([25], []), [(none, [])], [], 0, 0)
def ct_162 : List cE := en_162 :: ct_161
set_option maxRecDepth 100000 in
theorem ck_162 : mC pg RR SHF mtL ct_161 en_162 [(5, [(0, some (.inl (.ref 25))), (1, some (.inr (0, 0))), (2, some (.inr (0, 48))), (3, some (.inr (48, 48)))], [], 48, [(-1)], [])] [(0, 2, 0)] 14 = true := by decide +kernel
theorem ok_162 (hl0 : l.1.stackTraces = false) (hA : ∀ e ∈ ctA, cOk l pg RR SHF e) : ∀ e ∈ ct_162, cOk l pg RR SHF e := List.forall_mem_cons.mpr ⟨meth_ok pg_ok mtL_ok hl0 (ok_161 hl0 hA) ⟨by decide +kernel, by decide +kernel, by decide +kernel⟩ (by decide +kernel) ck_162, (ok_161 hl0 hA)⟩
/-- Tokens.advance -/
def en_163 : cE := (48, [some (.inl (.ref 2))], [], ([], [(2, 3), (2, 4), (2, 5)]), [(none, [])], [], 0, 0)
def ct_163 : List cE := en_163 :: ct_162
set_option maxRecDepth 100000 in
theorem ck_163 : mC pg RR SHF mtL ct_162 en_163 [(8, [(0, some (.inl (.ref 2)))], [(2, 2, (0, 800), none), (2, 4, (0, 800), none), (2, 5, (0, 800), none)], 2402, [(-1), 0], []), (94, [(0, some (.inl (.ref 2)))], [(2, 2, (1, 800), none), (2, 4, (0, 799), none), (2, 5, (0, 800), none)], 1601, [0, (-1)], []), (153, [(0, some (.inl (.ref 2)))], [(2, 2, (1, 800), none), (2, 4, (0, 799), none), (2, 5, (0, 800), none)], 800, [0, (-1)], [])] [(1, 2, 4), (1, 2, 5)] 58 = true := by decide +kernel
theorem ok_163 (hl0 : l.1.stackTraces = false) (hA : ∀ e ∈ ctA, cOk l pg RR SHF e) : ∀ e ∈ ct_163, cOk l pg RR SHF e := List.forall_mem_cons.mpr ⟨meth_ok pg_ok mtL_ok hl0 (ok_162 hl0 hA) ⟨by decide +kernel, by decide +kernel, by decide +kernel⟩ (by decide +kernel) ck_163, (ok_162 hl0 hA)⟩
/-- Tokens.value -/
def en_164 : cE := (69, [some (.inl (.ref 2))], [], ([], []), [(some (some (.inr ((-2147483648), 2147483647))), [])], [], 0, 0)
def ct_164 : List cE := en_164 :: ct_163
set_option maxRecDepth 100000 in
theorem ck_164 : mC pg RR SHF mtL ct_163 en_164 [(7, [(0, some (.inl (.ref 2))), (1, some (.inr ((-2147483648), 2147483647))), (2, some (.inr (0, 800)))], [], 800, [(-1)], [])] [(0, 2, 0)] 22 = true := by decide +kernel
theorem ok_164 (hl0 : l.1.stackTraces = false) (hA : ∀ e ∈ ctA, cOk l pg RR SHF e) : ∀ e ∈ ct_164, cOk l pg RR SHF e := List.forall_mem_cons.mpr ⟨meth_ok pg_ok mtL_ok hl0 (ok_163 hl0 hA) ⟨by decide +kernel, by decide +kernel, by decide +kernel⟩ (by decide +kernel) ck_164, (ok_163 hl0 hA)⟩
/-- House.allChances -/
def en_165 : cE := (71, [some (.inl (.ref 17))], [], ([], []), [(some (some (.inr ((-2147483648), 2147483647))), [])], [], 0, 0)
def ct_165 : List cE := en_165 :: ct_164
set_option maxRecDepth 100000 in
theorem ck_165 : mC pg RR SHF mtL ct_164 en_165 [(4, [(0, some (.inl (.ref 17))), (1, some (.inr ((-2147483648), 2147483647))), (2, some (.inr (0, 6)))], [], 6, [(-1)], [])] [(0, 2, 0)] 18 = true := by decide +kernel
theorem ok_165 (hl0 : l.1.stackTraces = false) (hA : ∀ e ∈ ctA, cOk l pg RR SHF e) : ∀ e ∈ ct_165, cOk l pg RR SHF e := List.forall_mem_cons.mpr ⟨meth_ok pg_ok mtL_ok hl0 (ok_164 hl0 hA) ⟨by decide +kernel, by decide +kernel, by decide +kernel⟩ (by decide +kernel) ck_165, (ok_164 hl0 hA)⟩
/-- Reader.read -/
def en_166 : cE := (45, [some (.inl (.ref 1)), some (.inl (.ref 17)), some (.inr (0, 800))], [], ([18, 19, 20, 21, 22, 23, 24, 25, 26, 27, 28, 29], [(1, 1), (1, 2), (2, 2), (2, 3), (2, 4), (2, 5), (17, 0), (17, 1), (17, 2), (17, 3)]), [(some (some (.inr (0, 5))), [])], [], 0, 0)
def ct_166 : List cE := en_166 :: ct_165
set_option maxRecDepth 100000 in
theorem ck_166 : mC pg RR SHF mtL ct_165 en_166 [(24, [(0, some (.inl (.ref 1))), (1, some (.inl (.ref 17))), (2, some (.inr (0, 800))), (3, some (.inr (0, 999)))], [], 999, [(-1)], [])] [(0, 3, 0)] 141 = true := by decide +kernel
theorem ok_166 (hl0 : l.1.stackTraces = false) (hA : ∀ e ∈ ctA, cOk l pg RR SHF e) : ∀ e ∈ ct_166, cOk l pg RR SHF e := List.forall_mem_cons.mpr ⟨meth_ok pg_ok mtL_ok hl0 (ok_165 hl0 hA) ⟨by decide +kernel, by decide +kernel, by decide +kernel⟩ (by decide +kernel) ck_166, (ok_165 hl0 hA)⟩
end CT
