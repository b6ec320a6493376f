/-! closed runs of the law from its loop on, each under what its intervals say -/
abbrev scL (L : Nat) (t : List (Nat × Int32)) (f : List (UInt32 × _root_.Jvm.ClassFile.Cond × Int32 × Bool)) (mk : List (UInt32 × Int32 × Int32)) : aSc := (some L, fun j => lkA t j, f, mk)
set_option maxRecDepth 100000 in
theorem p1_s0 : okE (ax pg (scL 0 [] [] []) 28 248 23 LV0 [] (true, SH0) LM0 0 0) 20 100 = true := by decide +kernel
set_option maxRecDepth 100000 in
theorem p1_s1 : okE (ax pg (scL 1 [] [] []) 28 248 23 LV0 [] (true, SH0) LM0 0 0) 20 100 = true := by decide +kernel
set_option maxRecDepth 100000 in
theorem p1_s2 : okE (ax pg (scL 2 [] [] []) 28 248 23 LV0 [] (true, SH0) LM0 0 0) 20 100 = true := by decide +kernel
set_option maxRecDepth 100000 in
theorem p1_s3 : okE (ax pg (scL 3 [] [] []) 28 248 23 LV0 [] (true, SH0) LM0 0 0) 20 100 = true := by decide +kernel
set_option maxRecDepth 100000 in
theorem p1_s4 : okE (ax pg (scL 4 [] [] []) 28 248 23 LV0 [] (true, SH0) LM0 0 0) 20 100 = true := by decide +kernel
set_option maxRecDepth 100000 in
theorem p1_s5 : okE (ax pg (scL 5 [] [] []) 28 248 23 LV0 [] (true, SH0) LM0 0 0) 20 100 = true := by decide +kernel
set_option maxRecDepth 100000 in
theorem p1_f0 : okE (ax pg (scL 6 [] [] [(0, 31, 0)]) 1060 248 23 LV0 [] (true, SH0) LM0 0 0) 20 100 = true := by decide +kernel
set_option maxRecDepth 100000 in
theorem p1_f1_0 : okE (ax pg (scL 6 [] [(1, .lt, 0, true)] [(0, 31, 1)]) 102 248 23 LV0 [] (true, SH0) LM0 0 0) 20 100 = true := by decide +kernel
set_option maxRecDepth 100000 in
theorem p1_f1_1_0 : okE (ax pg (scL 6 [(1, 0)] [] [(0, 31, 1)]) 5143 248 23 LV0 [] (true, SH0) LM0 0 0) 20 100 = true := by decide +kernel
set_option maxRecDepth 100000 in
theorem p1_f1_1_1 : okE (ax pg (scL 6 [] [(1, .lt, 0, false), (1, .le, 0, false), (1, .gt, 0, true)] [(0, 31, 1)]) 112 248 23 LV0 [] (true, SH0) LM0 0 0) 20 100 = true := by decide +kernel
set_option maxRecDepth 100000 in
theorem p1_f2 : okE (ax pg (scL 6 [] [] [(0, 31, 2)]) 56 248 23 LV0 [] (true, SH0) LM0 0 0) 20 100 = true := by decide +kernel
set_option maxRecDepth 100000 in
theorem p1_f3_0 : okE (ax pg (scL 6 [] [(1, .lt, 0, true)] [(0, 31, 3)]) 108 248 23 LV0 [] (true, SH0) LM0 0 0) 20 100 = true := by decide +kernel
set_option maxRecDepth 100000 in
theorem p1_f3_1 : okE (ax pg (scL 6 [(1, 0)] [] [(0, 31, 3)]) 128 248 23 LV0 [] (true, SH0) LM0 0 0) 20 100 = true := by decide +kernel
set_option maxRecDepth 100000 in
theorem p1_f3_2 : okE (ax pg (scL 6 [(1, 1)] [] [(0, 31, 3)]) 128 248 23 LV0 [] (true, SH0) LM0 0 0) 20 100 = true := by decide +kernel
set_option maxRecDepth 100000 in
theorem p1_f3_3 : okE (ax pg (scL 6 [(1, 2)] [] [(0, 31, 3)]) 128 248 23 LV0 [] (true, SH0) LM0 0 0) 20 100 = true := by decide +kernel
set_option maxRecDepth 100000 in
theorem p1_f3_4 : okE (ax pg (scL 6 [(1, 3)] [] [(0, 31, 3)]) 128 248 23 LV0 [] (true, SH0) LM0 0 0) 20 100 = true := by decide +kernel
set_option maxRecDepth 100000 in
theorem p1_f3_5 : okE (ax pg (scL 6 [(1, 4)] [] [(0, 31, 3)]) 129 248 23 LV0 [] (true, SH0) LM0 0 0) 20 100 = true := by decide +kernel
set_option maxRecDepth 100000 in
theorem p1_f3_6 : okE (ax pg (scL 6 [(1, 5)] [] [(0, 31, 3)]) 133 248 23 LV0 [] (true, SH0) LM0 0 0) 20 100 = true := by decide +kernel
set_option maxRecDepth 100000 in
theorem p1_f3_7 : okE (ax pg (scL 6 [(1, 6)] [] [(0, 31, 3)]) 133 248 23 LV0 [] (true, SH0) LM0 0 0) 20 100 = true := by decide +kernel
set_option maxRecDepth 100000 in
theorem p1_f3_8 : okE (ax pg (scL 6 [(1, 7)] [] [(0, 31, 3)]) 133 248 23 LV0 [] (true, SH0) LM0 0 0) 20 100 = true := by decide +kernel
set_option maxRecDepth 100000 in
theorem p1_f3_9 : okE (ax pg (scL 6 [(1, 8)] [] [(0, 31, 3)]) 132 248 23 LV0 [] (true, SH0) LM0 0 0) 20 100 = true := by decide +kernel
set_option maxRecDepth 100000 in
theorem p1_f3_10 : okE (ax pg (scL 6 [] [(1, .gt, 8, true), (1, .lt, 0, false)] [(0, 31, 3)]) 111 248 23 LV0 [] (true, SH0) LM0 0 0) 20 100 = true := by decide +kernel
set_option maxRecDepth 100000 in
theorem p1_f4_0 : okE (ax pg (scL 6 [] [(1, .lt, 0, true)] [(0, 31, 4)]) 127 248 23 LV0 [] (true, SH0) LM0 0 0) 20 100 = true := by decide +kernel
set_option maxRecDepth 100000 in
theorem p1_f4_1 : okE (ax pg (scL 6 [] [(1, .lt, 0, false), (1, .ge, 0, true)] [(0, 31, 4)]) 135 248 23 LV0 [] (true, SH0) LM0 0 0) 20 100 = true := by decide +kernel
set_option maxRecDepth 100000 in
theorem p1_f5_0 : okE (ax pg (scL 6 [] [(1, .lt, 0, true)] [(0, 31, 5)]) 127 248 23 LV0 [] (true, SH0) LM0 0 0) 20 100 = true := by decide +kernel
set_option maxRecDepth 100000 in
theorem p1_f5_1 : okE (ax pg (scL 6 [] [(1, .lt, 0, false), (1, .ge, 0, true)] [(0, 31, 5)]) 135 248 23 LV0 [] (true, SH0) LM0 0 0) 20 100 = true := by decide +kernel
set_option maxRecDepth 100000 in
theorem p1_f6_0 : okE (ax pg (scL 6 [] [(1, .lt, 0, true)] [(0, 31, 6)]) 127 248 23 LV0 [] (true, SH0) LM0 0 0) 20 100 = true := by decide +kernel
set_option maxRecDepth 100000 in
theorem p1_f6_1 : okE (ax pg (scL 6 [] [(1, .lt, 0, false), (1, .ge, 0, true)] [(0, 31, 6)]) 135 248 23 LV0 [] (true, SH0) LM0 0 0) 20 100 = true := by decide +kernel
set_option maxRecDepth 100000 in
theorem p1_f7_0 : okE (ax pg (scL 6 [] [(1, .lt, 0, true)] [(0, 31, 7)]) 113 248 23 LV0 [] (true, SH0) LM0 0 0) 20 100 = true := by decide +kernel
set_option maxRecDepth 100000 in
theorem p1_f7_1 : okE (ax pg (scL 6 [] [(1, .lt, 0, false), (1, .ge, 0, true)] [(0, 31, 7)]) 122 248 23 LV0 [] (true, SH0) LM0 0 0) 20 100 = true := by decide +kernel
set_option maxRecDepth 100000 in
theorem p1_f8_0 : okE (ax pg (scL 6 [] [(1, .eq, 0, false), (1, .lt, 0, true)] [(0, 31, 8)]) 123 248 23 LV0 [] (true, SH0) LM0 0 0) 20 100 = true := by decide +kernel
set_option maxRecDepth 100000 in
theorem p1_f8_1 : okE (ax pg (scL 6 [(1, 0)] [] [(0, 31, 8)]) 2805 248 23 LV0 [] (true, SH0) LM0 0 0) 20 100 = true := by decide +kernel
set_option maxRecDepth 100000 in
theorem p1_f8_2 : okE (ax pg (scL 6 [] [(1, .eq, 0, false), (1, .lt, 0, false), (1, .ge, 1, true)] [(0, 31, 8)]) 129 248 23 LV0 [] (true, SH0) LM0 0 0) 20 100 = true := by decide +kernel
set_option maxRecDepth 100000 in
theorem p1_f9_0 : okE (ax pg (scL 6 [] [(1, .lt, 0, true)] [(0, 31, 9)]) 116 248 23 LV0 [] (true, SH0) LM0 0 0) 20 100 = true := by decide +kernel
set_option maxRecDepth 100000 in
theorem p1_f9_1 : okE (ax pg (scL 6 [] [(1, .lt, 0, false), (1, .ge, 0, true)] [(0, 31, 9)]) 124 248 23 LV0 [] (true, SH0) LM0 0 0) 20 100 = true := by decide +kernel
set_option maxRecDepth 100000 in
theorem p1_f10_0 : okE (ax pg (scL 6 [] [(1, .eq, 0, false), (1, .lt, 0, true)] [(0, 31, 10)]) 123 248 23 LV0 [] (true, SH0) LM0 0 0) 20 100 = true := by decide +kernel
set_option maxRecDepth 100000 in
theorem p1_f10_1 : okE (ax pg (scL 6 [(1, 0)] [] [(0, 31, 10)]) 561 248 23 LV0 [] (true, SH0) LM0 0 0) 20 100 = true := by decide +kernel
set_option maxRecDepth 100000 in
theorem p1_f10_2 : okE (ax pg (scL 6 [] [(1, .eq, 0, false), (1, .lt, 0, false), (1, .ge, 1, true)] [(0, 31, 10)]) 129 248 23 LV0 [] (true, SH0) LM0 0 0) 20 100 = true := by decide +kernel
set_option maxRecDepth 100000 in
theorem p1_f11_0 : okE (ax pg (scL 6 [] [(1, .eq, 0, false), (1, .lt, 0, true)] [(0, 31, 11)]) 123 248 23 LV0 [] (true, SH0) LM0 0 0) 20 100 = true := by decide +kernel
set_option maxRecDepth 100000 in
theorem p1_f11_1 : okE (ax pg (scL 6 [(1, 0)] [] [(0, 31, 11)]) 354 248 23 LV0 [] (true, SH0) LM0 0 0) 20 100 = true := by decide +kernel
set_option maxRecDepth 100000 in
theorem p1_f11_2 : okE (ax pg (scL 6 [] [(1, .eq, 0, false), (1, .lt, 0, false), (1, .ge, 1, true)] [(0, 31, 11)]) 129 248 23 LV0 [] (true, SH0) LM0 0 0) 20 100 = true := by decide +kernel
set_option maxRecDepth 100000 in
theorem p1_f12_0_0 : okE (ax pg (scL 6 [] [(2, .lt, 0, true), (1, .lt, 0, true)] [(0, 31, 12)]) 110 248 23 LV0 [] (true, SH0) LM0 0 0) 20 100 = true := by decide +kernel
set_option maxRecDepth 100000 in
theorem p1_f12_0_1 : okE (ax pg (scL 6 [] [(2, .lt, 0, true), (1, .lt, 0, false), (1, .ge, 0, true)] [(0, 31, 12)]) 118 248 23 LV0 [] (true, SH0) LM0 0 0) 20 100 = true := by decide +kernel
set_option maxRecDepth 100000 in
theorem p1_f12_1_0 : okE (ax pg (scL 6 [] [(2, .lt, 0, false), (2, .ge, 0, true), (1, .lt, 0, true)] [(0, 31, 12)]) 114 248 23 LV0 [] (true, SH0) LM0 0 0) 20 100 = true := by decide +kernel
set_option maxRecDepth 100000 in
theorem p1_f12_1_1 : okE (ax pg (scL 6 [] [(2, .lt, 0, false), (2, .ge, 0, true), (1, .lt, 0, false), (1, .ge, 0, true)] [(0, 31, 12)]) 122 248 23 LV0 [] (true, SH0) LM0 0 0) 20 100 = true := by decide +kernel
set_option maxRecDepth 100000 in
theorem p1_f13_0 : okE (ax pg (scL 6 [] [(1, .eq, 0, false), (1, .lt, 0, true)] [(0, 31, 13)]) 123 248 23 LV0 [] (true, SH0) LM0 0 0) 20 100 = true := by decide +kernel
set_option maxRecDepth 100000 in
theorem p1_f13_1 : okE (ax pg (scL 6 [(1, 0)] [] [(0, 31, 13)]) 155 248 23 LV0 [] (true, SH0) LM0 0 0) 20 100 = true := by decide +kernel
set_option maxRecDepth 100000 in
theorem p1_f13_2 : okE (ax pg (scL 6 [] [(1, .eq, 0, false), (1, .lt, 0, false), (1, .ge, 1, true)] [(0, 31, 13)]) 129 248 23 LV0 [] (true, SH0) LM0 0 0) 20 100 = true := by decide +kernel
set_option maxRecDepth 100000 in
theorem p1_f14_0 : okE (ax pg (scL 6 [] [(1, .lt, 0, true)] [(0, 31, 14)]) 108 248 23 LV0 [] (true, SH0) LM0 0 0) 20 100 = true := by decide +kernel
set_option maxRecDepth 100000 in
theorem p1_f14_1 : okE (ax pg (scL 6 [(1, 0)] [] [(0, 31, 14)]) 170 248 23 LV0 [] (true, SH0) LM0 0 0) 20 100 = true := by decide +kernel
set_option maxRecDepth 100000 in
theorem p1_f14_2 : okE (ax pg (scL 6 [(1, 1)] [] [(0, 31, 14)]) 169 248 23 LV0 [] (true, SH0) LM0 0 0) 20 100 = true := by decide +kernel
set_option maxRecDepth 100000 in
theorem p1_f14_3 : okE (ax pg (scL 6 [(1, 2)] [] [(0, 31, 14)]) 199 248 23 LV0 [] (true, SH0) LM0 0 0) 20 100 = true := by decide +kernel
set_option maxRecDepth 100000 in
theorem p1_f14_4 : okE (ax pg (scL 6 [(1, 3)] [] [(0, 31, 14)]) 204 248 23 LV0 [] (true, SH0) LM0 0 0) 20 100 = true := by decide +kernel
set_option maxRecDepth 100000 in
theorem p1_f14_5 : okE (ax pg (scL 6 [] [(1, .gt, 3, true), (1, .lt, 0, false)] [(0, 31, 14)]) 111 248 23 LV0 [] (true, SH0) LM0 0 0) 20 100 = true := by decide +kernel
set_option maxRecDepth 100000 in
theorem p1_f15_0_0 : okE (ax pg (scL 6 [] [(1, .eq, 0, false), (2, .lt, 0, true)] [(0, 31, 15)]) 125 248 23 LV0 [] (true, SH0) LM0 0 0) 20 100 = true := by decide +kernel
set_option maxRecDepth 100000 in
theorem p1_f15_0_1 : okE (ax pg (scL 6 [(2, 0)] [(1, .eq, 0, false)] [(0, 31, 15)]) 5101 248 23 LV0 [] (true, SH0) LM0 0 0) 20 100 = true := by decide +kernel
set_option maxRecDepth 100000 in
theorem p1_f15_0_2 : okE (ax pg (scL 6 [(2, 1)] [(1, .eq, 0, false)] [(0, 31, 15)]) 5067 248 23 LV0 [] (true, SH0) LM0 0 0) 20 100 = true := by decide +kernel
set_option maxRecDepth 100000 in
theorem p1_f15_0_3 : okE (ax pg (scL 6 [(2, 2)] [(1, .eq, 0, false)] [(0, 31, 15)]) 176 248 23 LV0 [] (true, SH0) LM0 0 0) 20 100 = true := by decide +kernel
set_option maxRecDepth 100000 in
theorem p1_f15_0_4 : okE (ax pg (scL 6 [] [(1, .eq, 0, false), (2, .gt, 2, true), (2, .lt, 0, false)] [(0, 31, 15)]) 128 248 23 LV0 [] (true, SH0) LM0 0 0) 20 100 = true := by decide +kernel
set_option maxRecDepth 100000 in
theorem p1_f15_1_0 : okE (ax pg (scL 6 [(1, 0)] [(2, .lt, 0, true)] [(0, 31, 15)]) 123 248 23 LV0 [] (true, SH0) LM0 0 0) 20 100 = true := by decide +kernel
set_option maxRecDepth 100000 in
theorem p1_f15_1_1 : okE (ax pg (scL 6 [(1, 0), (2, 0)] [] [(0, 31, 15)]) 5095 248 23 LV0 [] (true, SH0) LM0 0 0) 20 100 = true := by decide +kernel
set_option maxRecDepth 100000 in
theorem p1_f15_1_2 : okE (ax pg (scL 6 [(1, 0), (2, 1)] [] [(0, 31, 15)]) 5061 248 23 LV0 [] (true, SH0) LM0 0 0) 20 100 = true := by decide +kernel
set_option maxRecDepth 100000 in
theorem p1_f15_1_3 : okE (ax pg (scL 6 [(1, 0), (2, 2)] [] [(0, 31, 15)]) 172 248 23 LV0 [] (true, SH0) LM0 0 0) 20 100 = true := by decide +kernel
set_option maxRecDepth 100000 in
theorem p1_f15_1_4 : okE (ax pg (scL 6 [(1, 0)] [(2, .gt, 2, true), (2, .lt, 0, false)] [(0, 31, 15)]) 126 248 23 LV0 [] (true, SH0) LM0 0 0) 20 100 = true := by decide +kernel
set_option maxRecDepth 100000 in
theorem p1_f15_2_0 : okE (ax pg (scL 6 [] [(1, .eq, 0, false), (2, .lt, 0, true)] [(0, 31, 15)]) 125 248 23 LV0 [] (true, SH0) LM0 0 0) 20 100 = true := by decide +kernel
set_option maxRecDepth 100000 in
theorem p1_f15_2_1 : okE (ax pg (scL 6 [(2, 0)] [(1, .eq, 0, false)] [(0, 31, 15)]) 5101 248 23 LV0 [] (true, SH0) LM0 0 0) 20 100 = true := by decide +kernel
set_option maxRecDepth 100000 in
theorem p1_f15_2_2 : okE (ax pg (scL 6 [(2, 1)] [(1, .eq, 0, false)] [(0, 31, 15)]) 5067 248 23 LV0 [] (true, SH0) LM0 0 0) 20 100 = true := by decide +kernel
set_option maxRecDepth 100000 in
theorem p1_f15_2_3 : okE (ax pg (scL 6 [(2, 2)] [(1, .eq, 0, false)] [(0, 31, 15)]) 176 248 23 LV0 [] (true, SH0) LM0 0 0) 20 100 = true := by decide +kernel
set_option maxRecDepth 100000 in
theorem p1_f15_2_4 : okE (ax pg (scL 6 [] [(1, .eq, 0, false), (2, .gt, 2, true), (2, .lt, 0, false)] [(0, 31, 15)]) 128 248 23 LV0 [] (true, SH0) LM0 0 0) 20 100 = true := by decide +kernel
set_option maxRecDepth 100000 in
theorem p1_f16 : okE (ax pg (scL 6 [] [] [(0, 31, 16)]) 267 248 23 LV0 [] (true, SH0) LM0 0 0) 20 100 = true := by decide +kernel
set_option maxRecDepth 100000 in
theorem p1_f17_0 : okE (ax pg (scL 6 [] [(1, .lt, 0, true)] [(0, 31, 17)]) 127 248 23 LV0 [] (true, SH0) LM0 0 0) 20 100 = true := by decide +kernel
set_option maxRecDepth 100000 in
theorem p1_f17_1 : okE (ax pg (scL 6 [] [(1, .lt, 0, false), (1, .ge, 0, true)] [(0, 31, 17)]) 135 248 23 LV0 [] (true, SH0) LM0 0 0) 20 100 = true := by decide +kernel
set_option maxRecDepth 100000 in
theorem p1_f18_0 : okE (ax pg (scL 6 [] [(1, .eq, 0, false), (1, .lt, 0, true)] [(0, 31, 18)]) 115 248 23 LV0 [] (true, SH0) LM0 0 0) 20 100 = true := by decide +kernel
set_option maxRecDepth 100000 in
theorem p1_f18_1 : okE (ax pg (scL 6 [(1, 0)] [] [(0, 31, 18)]) 2934 248 23 LV0 [] (true, SH0) LM0 0 0) 20 100 = true := by decide +kernel
set_option maxRecDepth 100000 in
theorem p1_f18_2 : okE (ax pg (scL 6 [] [(1, .eq, 0, false), (1, .lt, 0, false), (1, .ge, 1, true)] [(0, 31, 18)]) 121 248 23 LV0 [] (true, SH0) LM0 0 0) 20 100 = true := by decide +kernel
set_option maxRecDepth 100000 in
theorem p1_f19_0 : okE (ax pg (scL 6 [] [(1, .lt, 0, true)] [(0, 31, 19)]) 109 248 23 LV0 [] (true, SH0) LM0 0 0) 20 100 = true := by decide +kernel
set_option maxRecDepth 100000 in
theorem p1_f19_1_0 : okE (ax pg (scL 6 [(1, 0)] [] [(0, 31, 19)]) 3060 248 23 LV0 [] (true, SH0) LM0 0 0) 20 100 = true := by decide +kernel
set_option maxRecDepth 100000 in
theorem p1_f19_1_1 : okE (ax pg (scL 6 [] [(1, .lt, 0, false), (1, .le, 0, false), (1, .gt, 0, true)] [(0, 31, 19)]) 117 248 23 LV0 [] (true, SH0) LM0 0 0) 20 100 = true := by decide +kernel
set_option maxRecDepth 100000 in
theorem p1_f20_0 : okE (ax pg (scL 6 [] [(1, .lt, 0, true)] [(0, 31, 20)]) 127 248 23 LV0 [] (true, SH0) LM0 0 0) 20 100 = true := by decide +kernel
set_option maxRecDepth 100000 in
theorem p1_f20_1 : okE (ax pg (scL 6 [] [(1, .lt, 0, false), (1, .ge, 0, true)] [(0, 31, 20)]) 135 248 23 LV0 [] (true, SH0) LM0 0 0) 20 100 = true := by decide +kernel
set_option maxRecDepth 100000 in
theorem p1_f21_0 : okE (ax pg (scL 6 [] [(1, .lt, 0, true)] [(0, 31, 21)]) 127 248 23 LV0 [] (true, SH0) LM0 0 0) 20 100 = true := by decide +kernel
set_option maxRecDepth 100000 in
theorem p1_f21_1 : okE (ax pg (scL 6 [] [(1, .lt, 0, false), (1, .ge, 0, true)] [(0, 31, 21)]) 135 248 23 LV0 [] (true, SH0) LM0 0 0) 20 100 = true := by decide +kernel
set_option maxRecDepth 100000 in
theorem p1_f22 : okE (ax pg (scL 6 [] [] [(0, 31, 22)]) 1340 248 23 LV0 [] (true, SH0) LM0 0 0) 20 100 = true := by decide +kernel
set_option maxRecDepth 100000 in
theorem p1_f23_0 : okE (ax pg (scL 6 [] [(1, .lt, 0, true)] [(0, 31, 23)]) 108 248 23 LV0 [] (true, SH0) LM0 0 0) 20 100 = true := by decide +kernel
set_option maxRecDepth 100000 in
theorem p1_f23_1_0 : okE (ax pg (scL 6 [] [(1, .lt, 0, false), (1, .le, 60, true), (1, .gt, 60, false)] [(0, 31, 23)]) 150 248 23 LV0 [] (true, SH0) LM0 0 0) 20 100 = true := by decide +kernel
set_option maxRecDepth 100000 in
theorem p1_f23_1_1 : okE (ax pg (scL 6 [] [(1, .lt, 0, false), (1, .le, 60, false), (1, .gt, 60, true)] [(0, 31, 23)]) 114 248 23 LV0 [] (true, SH0) LM0 0 0) 20 100 = true := by decide +kernel
set_option maxRecDepth 100000 in
theorem p1_f24_0 : okE (ax pg (scL 6 [] [(1, .lt, 0, true)] [(0, 31, 24)]) 115 248 23 LV0 [] (true, SH0) LM0 0 0) 20 100 = true := by decide +kernel
set_option maxRecDepth 100000 in
theorem p1_f24_1 : okE (ax pg (scL 6 [] [(1, .lt, 0, false)] [(0, 31, 24)]) 120 248 23 LV0 [] (true, SH0) LM0 0 0) 20 100 = true := by decide +kernel
set_option maxRecDepth 100000 in
theorem p1_f25_0 : okE (ax pg (scL 6 [] [(1, .lt, 0, true)] [(0, 31, 25)]) 116 248 23 LV0 [] (true, SH0) LM0 0 0) 20 100 = true := by decide +kernel
set_option maxRecDepth 100000 in
theorem p1_f25_1 : okE (ax pg (scL 6 [] [(1, .lt, 0, false), (1, .ge, 0, true)] [(0, 31, 25)]) 124 248 23 LV0 [] (true, SH0) LM0 0 0) 20 100 = true := by decide +kernel
set_option maxRecDepth 100000 in
theorem p1_f26 : okE (ax pg (scL 6 [] [] [(0, 31, 26)]) 62 248 23 LV0 [] (true, SH0) LM0 0 0) 20 100 = true := by decide +kernel
set_option maxRecDepth 100000 in
theorem p1_f27 : okE (ax pg (scL 6 [] [] [(0, 31, 27)]) 61 248 23 LV0 [] (true, SH0) LM0 0 0) 20 100 = true := by decide +kernel
set_option maxRecDepth 100000 in
theorem p1_f28 : okE (ax pg (scL 6 [] [] [(0, 31, 28)]) 42 248 23 LV0 [] (true, SH0) LM0 0 0) 20 100 = true := by decide +kernel
set_option maxRecDepth 100000 in
theorem p1_f29 : okE (ax pg (scL 6 [] [] [(0, 31, 29)]) 42 248 23 LV0 [] (true, SH0) LM0 0 0) 20 100 = true := by decide +kernel
set_option maxRecDepth 100000 in
theorem p1_f30 : okE (ax pg (scL 6 [] [] [(0, 31, 30)]) 42 248 23 LV0 [] (true, SH0) LM0 0 0) 20 100 = true := by decide +kernel
set_option maxRecDepth 100000 in
theorem p1_f31 : okE (ax pg (scL 6 [] [] [(0, 31, 31)]) 42 248 23 LV0 [] (true, SH0) LM0 0 0) 20 100 = true := by decide +kernel
