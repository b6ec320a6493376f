/-! stretches of the ranks of rows and of day, printed by wip/gen/segs_dy.py -/
def RWk : List (Nat × Nat × Nat) := [(30, 0, 32), (30, 1, 33), (36, 0, 38), (36, 1, 39), (36, 2, 40)]
theorem rw_RR : ∀ e ∈ RWk, e ∈ RR.2 := by decide +kernel
theorem rw_RRS : ∀ e ∈ RWk, e ∈ RRS.2 := by decide +kernel
theorem plc_0 {l : aL} {P : aP} {kc ks : Nat} {x : Int32} {M : aM}  (hl0 : l.1.stackTraces = false) (r1 : P (.inl (some (.int ((Int32.ofInt 3) * (((Int8.ofInt 7).toInt32) - (x)))))) SHF M) : AW l (pI pg 104) P kc ks 0 [(0, .int (x))] [] SHF M := by
  refine AW.iconst (dq rfl) ?_
  show AW l (pI pg 104) P kc ks 1 _ _ SHF _
  refine AW.bipush (dq rfl) ?_
  show AW l (pI pg 104) P kc ks 3 _ _ SHF _
  refine AW.iload_n (dq rfl) rfl ?_
  show AW l (pI pg 104) P kc ks 4 _ _ SHF _
  refine AW.isub (dq rfl) ?_
  show AW l (pI pg 104) P kc ks 5 _ _ SHF _
  refine AW.imul (dq rfl) ?_
  show AW l (pI pg 104) P kc ks 6 _ _ SHF _
  refine AW.iret (dq rfl) rfl ?_
  exact r1

theorem gof_0 {l : aL} {P : aP} {kc ks : Nat} {f : Int64} {x y : Int32} {M : aM}  (hl0 : l.1.stackTraces = false) (Q1 : Int32 → aM → Prop) (c2 : AC l (pI pg 104) (fcI M Q1) 0 0 [.int (y)] SHF M) (r3 : ∀ (y1 : Int32), ∀ (M1 : aM), ∀ (e1 : M1.2.2 = M.2.2), ∀ (q1 : Q1 y1 M1), P (.inl (some (.long (((f) <<< (((Int8.ofInt 24).toInt32).toInt64 &&& 63)) + (((((Int8.ofInt 7).toInt32) - (x)) <<< ((y1) &&& 31)).toInt64))))) SHF M1) : AW l (pI pg 103) P kc ks 0 [(0, .long (f)), (2, .int (x)), (3, .int (y))] [] SHF M := by
  refine AW.lload_n (dq rfl) rfl ?_
  show AW l (pI pg 103) P kc ks 1 _ _ SHF _
  refine AW.bipush (dq rfl) ?_
  show AW l (pI pg 103) P kc ks 3 _ _ SHF _
  refine AW.lshl (dq rfl) ?_
  show AW l (pI pg 103) P kc ks 4 _ _ SHF _
  refine AW.bipush (dq rfl) ?_
  show AW l (pI pg 103) P kc ks 6 _ _ SHF _
  refine AW.iload_n (dq rfl) rfl ?_
  show AW l (pI pg 103) P kc ks 7 _ _ SHF _
  refine AW.isub (dq rfl) ?_
  show AW l (pI pg 103) P kc ks 8 _ _ SHF _
  refine AW.iload_n (dq rfl) rfl ?_
  show AW l (pI pg 103) P kc ks 9 _ _ SHF _
  refine fw_callSI (as := [.int (y)]) (dq rfl) (pg_ok.2.2.1 103 _ _ _ _ rfl) (by decide +kernel) rfl rfl (c2) (fun y1 M1 e1 q1 => ?_)
  show AW l (pI pg 103) P kc ks 12 [(0, .long (f)), (2, .int (x)), (3, .int (y))] [.int (y1), .int (((Int8.ofInt 7).toInt32) - (x)), .long ((f) <<< (((Int8.ofInt 24).toInt32).toInt64 &&& 63))] SHF _
  refine AW.ishl (dq rfl) ?_
  show AW l (pI pg 103) P kc ks 13 _ _ SHF _
  refine AW.i2l (dq rfl) ?_
  show AW l (pI pg 103) P kc ks 14 _ _ SHF _
  refine AW.ladd (dq rfl) ?_
  show AW l (pI pg 103) P kc ks 15 _ _ SHF _
  refine AW.lret (dq rfl) rfl ?_
  exact r3 y1 M1 e1 q1

theorem cof_0 {l : aL} {P : aP} {kc ks : Nat} {f : Int64} {M : aM}  (hl0 : l.1.stackTraces = false) (r1 : P (.inl (some (.int (((f) &&& (16777215)).toInt32)))) SHF M) : AW l (pI pg 108) P kc ks 0 [(0, .long (f))] [] SHF M := by
  refine AW.lload_n (dq rfl) rfl ?_
  show AW l (pI pg 108) P kc ks 1 _ _ SHF _
  refine AW.ldc2 (dq rfl) (pg_ok.2.2.2.2.2.1 108 _ 16777215 rfl) ?_
  show AW l (pI pg 108) P kc ks 4 _ _ SHF _
  refine AW.land (dq rfl) ?_
  show AW l (pI pg 108) P kc ks 5 _ _ SHF _
  refine AW.l2i (dq rfl) ?_
  show AW l (pI pg 108) P kc ks 6 _ _ SHF _
  refine AW.iret (dq rfl) rfl ?_
  exact r1

theorem sof_0 {l : aL} {P : aP} {kc ks : Nat} {f : Int64} {M : aM}  (hl0 : l.1.stackTraces = false) (r1 : P (.inl (some (.int (((f) >>> (((Int8.ofInt 24).toInt32).toInt64 &&& 63)).toInt32)))) SHF M) : AW l (pI pg 109) P kc ks 0 [(0, .long (f))] [] SHF M := by
  refine AW.lload_n (dq rfl) rfl ?_
  show AW l (pI pg 109) P kc ks 1 _ _ SHF _
  refine AW.bipush (dq rfl) ?_
  show AW l (pI pg 109) P kc ks 3 _ _ SHF _
  refine AW.lshr (dq rfl) ?_
  show AW l (pI pg 109) P kc ks 4 _ _ SHF _
  refine AW.l2i (dq rfl) ?_
  show AW l (pI pg 109) P kc ks 5 _ _ SHF _
  refine AW.iret (dq rfl) rfl ?_
  exact r1

theorem ntz_0 {l : aL} {P : aP} {kc ks : Nat} {x : Int32} {M : aM}  (hl0 : l.1.stackTraces = false) (r6 : ∀ (h1 : 0 < (((x) ^^^ (Int32.ofInt (-1))) &&& ((x) - (Int32.ofInt 1)) : Int32)), ∀ (h2 : (((x) ^^^ (Int32.ofInt (-1))) &&& ((x) - (Int32.ofInt 1)) : Int32) ≤ (65536 : Int32)), ∀ (h3 : (((x) ^^^ (Int32.ofInt (-1))) &&& ((x) - (Int32.ofInt 1)) : Int32) ≤ ((Int16.ofInt 256).toInt32 : Int32)), ∀ (h4 : (((x) ^^^ (Int32.ofInt (-1))) &&& ((x) - (Int32.ofInt 1)) : Int32) ≤ ((Int8.ofInt 16).toInt32 : Int32)), ∀ (h5 : (((x) ^^^ (Int32.ofInt (-1))) &&& ((x) - (Int32.ofInt 1)) : Int32) ≤ (Int32.ofInt 4 : Int32)), P (.inl (some (.int ((Int32.ofInt 1) + (((((x) ^^^ (Int32.ofInt (-1))) &&& ((x) - (Int32.ofInt 1))).toUInt32 >>> ((Int32.ofInt 1).toUInt32 &&& Int32.toUInt32 31)).toInt32))))) SHF M) (r7 : ∀ (h1 : 0 < (((x) ^^^ (Int32.ofInt (-1))) &&& ((x) - (Int32.ofInt 1)) : Int32)), ∀ (h2 : (((x) ^^^ (Int32.ofInt (-1))) &&& ((x) - (Int32.ofInt 1)) : Int32) ≤ (65536 : Int32)), ∀ (h3 : (((x) ^^^ (Int32.ofInt (-1))) &&& ((x) - (Int32.ofInt 1)) : Int32) ≤ ((Int16.ofInt 256).toInt32 : Int32)), ∀ (h4 : (((x) ^^^ (Int32.ofInt (-1))) &&& ((x) - (Int32.ofInt 1)) : Int32) ≤ ((Int8.ofInt 16).toInt32 : Int32)), ∀ (h5 : ¬ ((((x) ^^^ (Int32.ofInt (-1))) &&& ((x) - (Int32.ofInt 1)) : Int32) ≤ (Int32.ofInt 4 : Int32))), P (.inl (some (.int (((Int32.ofInt 1) + Int32.ofInt 2) + (((((((x) ^^^ (Int32.ofInt (-1))) &&& ((x) - (Int32.ofInt 1))).toUInt32 >>> ((Int32.ofInt 2).toUInt32 &&& Int32.toUInt32 31)).toInt32).toUInt32 >>> ((Int32.ofInt 1).toUInt32 &&& Int32.toUInt32 31)).toInt32))))) SHF M) (r9 : ∀ (h1 : 0 < (((x) ^^^ (Int32.ofInt (-1))) &&& ((x) - (Int32.ofInt 1)) : Int32)), ∀ (h2 : (((x) ^^^ (Int32.ofInt (-1))) &&& ((x) - (Int32.ofInt 1)) : Int32) ≤ (65536 : Int32)), ∀ (h3 : (((x) ^^^ (Int32.ofInt (-1))) &&& ((x) - (Int32.ofInt 1)) : Int32) ≤ ((Int16.ofInt 256).toInt32 : Int32)), ∀ (h4 : ¬ ((((x) ^^^ (Int32.ofInt (-1))) &&& ((x) - (Int32.ofInt 1)) : Int32) ≤ ((Int8.ofInt 16).toInt32 : Int32))), ∀ (h8 : (((((x) ^^^ (Int32.ofInt (-1))) &&& ((x) - (Int32.ofInt 1))).toUInt32 >>> ((Int32.ofInt 4).toUInt32 &&& Int32.toUInt32 31)).toInt32 : Int32) ≤ (Int32.ofInt 4 : Int32)), P (.inl (some (.int (((Int32.ofInt 1) + Int32.ofInt 4) + (((((((x) ^^^ (Int32.ofInt (-1))) &&& ((x) - (Int32.ofInt 1))).toUInt32 >>> ((Int32.ofInt 4).toUInt32 &&& Int32.toUInt32 31)).toInt32).toUInt32 >>> ((Int32.ofInt 1).toUInt32 &&& Int32.toUInt32 31)).toInt32))))) SHF M) (r10 : ∀ (h1 : 0 < (((x) ^^^ (Int32.ofInt (-1))) &&& ((x) - (Int32.ofInt 1)) : Int32)), ∀ (h2 : (((x) ^^^ (Int32.ofInt (-1))) &&& ((x) - (Int32.ofInt 1)) : Int32) ≤ (65536 : Int32)), ∀ (h3 : (((x) ^^^ (Int32.ofInt (-1))) &&& ((x) - (Int32.ofInt 1)) : Int32) ≤ ((Int16.ofInt 256).toInt32 : Int32)), ∀ (h4 : ¬ ((((x) ^^^ (Int32.ofInt (-1))) &&& ((x) - (Int32.ofInt 1)) : Int32) ≤ ((Int8.ofInt 16).toInt32 : Int32))), ∀ (h8 : ¬ ((((((x) ^^^ (Int32.ofInt (-1))) &&& ((x) - (Int32.ofInt 1))).toUInt32 >>> ((Int32.ofInt 4).toUInt32 &&& Int32.toUInt32 31)).toInt32 : Int32) ≤ (Int32.ofInt 4 : Int32))), P (.inl (some (.int ((((Int32.ofInt 1) + Int32.ofInt 4) + Int32.ofInt 2) + (((((((((x) ^^^ (Int32.ofInt (-1))) &&& ((x) - (Int32.ofInt 1))).toUInt32 >>> ((Int32.ofInt 4).toUInt32 &&& Int32.toUInt32 31)).toInt32).toUInt32 >>> ((Int32.ofInt 2).toUInt32 &&& Int32.toUInt32 31)).toInt32).toUInt32 >>> ((Int32.ofInt 1).toUInt32 &&& Int32.toUInt32 31)).toInt32))))) SHF M) (r13 : ∀ (h1 : 0 < (((x) ^^^ (Int32.ofInt (-1))) &&& ((x) - (Int32.ofInt 1)) : Int32)), ∀ (h2 : (((x) ^^^ (Int32.ofInt (-1))) &&& ((x) - (Int32.ofInt 1)) : Int32) ≤ (65536 : Int32)), ∀ (h3 : ¬ ((((x) ^^^ (Int32.ofInt (-1))) &&& ((x) - (Int32.ofInt 1)) : Int32) ≤ ((Int16.ofInt 256).toInt32 : Int32))), ∀ (h11 : (((((x) ^^^ (Int32.ofInt (-1))) &&& ((x) - (Int32.ofInt 1))).toUInt32 >>> (((Int8.ofInt 8).toInt32).toUInt32 &&& Int32.toUInt32 31)).toInt32 : Int32) ≤ ((Int8.ofInt 16).toInt32 : Int32)), ∀ (h12 : (((((x) ^^^ (Int32.ofInt (-1))) &&& ((x) - (Int32.ofInt 1))).toUInt32 >>> (((Int8.ofInt 8).toInt32).toUInt32 &&& Int32.toUInt32 31)).toInt32 : Int32) ≤ (Int32.ofInt 4 : Int32)), P (.inl (some (.int (((Int32.ofInt 1) + Int32.ofInt 8) + (((((((x) ^^^ (Int32.ofInt (-1))) &&& ((x) - (Int32.ofInt 1))).toUInt32 >>> (((Int8.ofInt 8).toInt32).toUInt32 &&& Int32.toUInt32 31)).toInt32).toUInt32 >>> ((Int32.ofInt 1).toUInt32 &&& Int32.toUInt32 31)).toInt32))))) SHF M) (r14 : ∀ (h1 : 0 < (((x) ^^^ (Int32.ofInt (-1))) &&& ((x) - (Int32.ofInt 1)) : Int32)), ∀ (h2 : (((x) ^^^ (Int32.ofInt (-1))) &&& ((x) - (Int32.ofInt 1)) : Int32) ≤ (65536 : Int32)), ∀ (h3 : ¬ ((((x) ^^^ (Int32.ofInt (-1))) &&& ((x) - (Int32.ofInt 1)) : Int32) ≤ ((Int16.ofInt 256).toInt32 : Int32))), ∀ (h11 : (((((x) ^^^ (Int32.ofInt (-1))) &&& ((x) - (Int32.ofInt 1))).toUInt32 >>> (((Int8.ofInt 8).toInt32).toUInt32 &&& Int32.toUInt32 31)).toInt32 : Int32) ≤ ((Int8.ofInt 16).toInt32 : Int32)), ∀ (h12 : ¬ ((((((x) ^^^ (Int32.ofInt (-1))) &&& ((x) - (Int32.ofInt 1))).toUInt32 >>> (((Int8.ofInt 8).toInt32).toUInt32 &&& Int32.toUInt32 31)).toInt32 : Int32) ≤ (Int32.ofInt 4 : Int32))), P (.inl (some (.int ((((Int32.ofInt 1) + Int32.ofInt 8) + Int32.ofInt 2) + (((((((((x) ^^^ (Int32.ofInt (-1))) &&& ((x) - (Int32.ofInt 1))).toUInt32 >>> (((Int8.ofInt 8).toInt32).toUInt32 &&& Int32.toUInt32 31)).toInt32).toUInt32 >>> ((Int32.ofInt 2).toUInt32 &&& Int32.toUInt32 31)).toInt32).toUInt32 >>> ((Int32.ofInt 1).toUInt32 &&& Int32.toUInt32 31)).toInt32))))) SHF M) (r16 : ∀ (h1 : 0 < (((x) ^^^ (Int32.ofInt (-1))) &&& ((x) - (Int32.ofInt 1)) : Int32)), ∀ (h2 : (((x) ^^^ (Int32.ofInt (-1))) &&& ((x) - (Int32.ofInt 1)) : Int32) ≤ (65536 : Int32)), ∀ (h3 : ¬ ((((x) ^^^ (Int32.ofInt (-1))) &&& ((x) - (Int32.ofInt 1)) : Int32) ≤ ((Int16.ofInt 256).toInt32 : Int32))), ∀ (h11 : ¬ ((((((x) ^^^ (Int32.ofInt (-1))) &&& ((x) - (Int32.ofInt 1))).toUInt32 >>> (((Int8.ofInt 8).toInt32).toUInt32 &&& Int32.toUInt32 31)).toInt32 : Int32) ≤ ((Int8.ofInt 16).toInt32 : Int32))), ∀ (h15 : (((((((x) ^^^ (Int32.ofInt (-1))) &&& ((x) - (Int32.ofInt 1))).toUInt32 >>> (((Int8.ofInt 8).toInt32).toUInt32 &&& Int32.toUInt32 31)).toInt32).toUInt32 >>> ((Int32.ofInt 4).toUInt32 &&& Int32.toUInt32 31)).toInt32 : Int32) ≤ (Int32.ofInt 4 : Int32)), P (.inl (some (.int ((((Int32.ofInt 1) + Int32.ofInt 8) + Int32.ofInt 4) + (((((((((x) ^^^ (Int32.ofInt (-1))) &&& ((x) - (Int32.ofInt 1))).toUInt32 >>> (((Int8.ofInt 8).toInt32).toUInt32 &&& Int32.toUInt32 31)).toInt32).toUInt32 >>> ((Int32.ofInt 4).toUInt32 &&& Int32.toUInt32 31)).toInt32).toUInt32 >>> ((Int32.ofInt 1).toUInt32 &&& Int32.toUInt32 31)).toInt32))))) SHF M) (r17 : ∀ (h1 : 0 < (((x) ^^^ (Int32.ofInt (-1))) &&& ((x) - (Int32.ofInt 1)) : Int32)), ∀ (h2 : (((x) ^^^ (Int32.ofInt (-1))) &&& ((x) - (Int32.ofInt 1)) : Int32) ≤ (65536 : Int32)), ∀ (h3 : ¬ ((((x) ^^^ (Int32.ofInt (-1))) &&& ((x) - (Int32.ofInt 1)) : Int32) ≤ ((Int16.ofInt 256).toInt32 : Int32))), ∀ (h11 : ¬ ((((((x) ^^^ (Int32.ofInt (-1))) &&& ((x) - (Int32.ofInt 1))).toUInt32 >>> (((Int8.ofInt 8).toInt32).toUInt32 &&& Int32.toUInt32 31)).toInt32 : Int32) ≤ ((Int8.ofInt 16).toInt32 : Int32))), ∀ (h15 : ¬ ((((((((x) ^^^ (Int32.ofInt (-1))) &&& ((x) - (Int32.ofInt 1))).toUInt32 >>> (((Int8.ofInt 8).toInt32).toUInt32 &&& Int32.toUInt32 31)).toInt32).toUInt32 >>> ((Int32.ofInt 4).toUInt32 &&& Int32.toUInt32 31)).toInt32 : Int32) ≤ (Int32.ofInt 4 : Int32))), P (.inl (some (.int (((((Int32.ofInt 1) + Int32.ofInt 8) + Int32.ofInt 4) + Int32.ofInt 2) + (((((((((((x) ^^^ (Int32.ofInt (-1))) &&& ((x) - (Int32.ofInt 1))).toUInt32 >>> (((Int8.ofInt 8).toInt32).toUInt32 &&& Int32.toUInt32 31)).toInt32).toUInt32 >>> ((Int32.ofInt 4).toUInt32 &&& Int32.toUInt32 31)).toInt32).toUInt32 >>> ((Int32.ofInt 2).toUInt32 &&& Int32.toUInt32 31)).toInt32).toUInt32 >>> ((Int32.ofInt 1).toUInt32 &&& Int32.toUInt32 31)).toInt32))))) SHF M) (r21 : ∀ (h1 : 0 < (((x) ^^^ (Int32.ofInt (-1))) &&& ((x) - (Int32.ofInt 1)) : Int32)), ∀ (h2 : ¬ ((((x) ^^^ (Int32.ofInt (-1))) &&& ((x) - (Int32.ofInt 1)) : Int32) ≤ (65536 : Int32))), ∀ (h18 : (((((x) ^^^ (Int32.ofInt (-1))) &&& ((x) - (Int32.ofInt 1))).toUInt32 >>> (((Int8.ofInt 16).toInt32).toUInt32 &&& Int32.toUInt32 31)).toInt32 : Int32) ≤ ((Int16.ofInt 256).toInt32 : Int32)), ∀ (h19 : (((((x) ^^^ (Int32.ofInt (-1))) &&& ((x) - (Int32.ofInt 1))).toUInt32 >>> (((Int8.ofInt 16).toInt32).toUInt32 &&& Int32.toUInt32 31)).toInt32 : Int32) ≤ ((Int8.ofInt 16).toInt32 : Int32)), ∀ (h20 : (((((x) ^^^ (Int32.ofInt (-1))) &&& ((x) - (Int32.ofInt 1))).toUInt32 >>> (((Int8.ofInt 16).toInt32).toUInt32 &&& Int32.toUInt32 31)).toInt32 : Int32) ≤ (Int32.ofInt 4 : Int32)), P (.inl (some (.int (((Int32.ofInt 1) + Int32.ofInt 16) + (((((((x) ^^^ (Int32.ofInt (-1))) &&& ((x) - (Int32.ofInt 1))).toUInt32 >>> (((Int8.ofInt 16).toInt32).toUInt32 &&& Int32.toUInt32 31)).toInt32).toUInt32 >>> ((Int32.ofInt 1).toUInt32 &&& Int32.toUInt32 31)).toInt32))))) SHF M) (r22 : ∀ (h1 : 0 < (((x) ^^^ (Int32.ofInt (-1))) &&& ((x) - (Int32.ofInt 1)) : Int32)), ∀ (h2 : ¬ ((((x) ^^^ (Int32.ofInt (-1))) &&& ((x) - (Int32.ofInt 1)) : Int32) ≤ (65536 : Int32))), ∀ (h18 : (((((x) ^^^ (Int32.ofInt (-1))) &&& ((x) - (Int32.ofInt 1))).toUInt32 >>> (((Int8.ofInt 16).toInt32).toUInt32 &&& Int32.toUInt32 31)).toInt32 : Int32) ≤ ((Int16.ofInt 256).toInt32 : Int32)), ∀ (h19 : (((((x) ^^^ (Int32.ofInt (-1))) &&& ((x) - (Int32.ofInt 1))).toUInt32 >>> (((Int8.ofInt 16).toInt32).toUInt32 &&& Int32.toUInt32 31)).toInt32 : Int32) ≤ ((Int8.ofInt 16).toInt32 : Int32)), ∀ (h20 : ¬ ((((((x) ^^^ (Int32.ofInt (-1))) &&& ((x) - (Int32.ofInt 1))).toUInt32 >>> (((Int8.ofInt 16).toInt32).toUInt32 &&& Int32.toUInt32 31)).toInt32 : Int32) ≤ (Int32.ofInt 4 : Int32))), P (.inl (some (.int ((((Int32.ofInt 1) + Int32.ofInt 16) + Int32.ofInt 2) + (((((((((x) ^^^ (Int32.ofInt (-1))) &&& ((x) - (Int32.ofInt 1))).toUInt32 >>> (((Int8.ofInt 16).toInt32).toUInt32 &&& Int32.toUInt32 31)).toInt32).toUInt32 >>> ((Int32.ofInt 2).toUInt32 &&& Int32.toUInt32 31)).toInt32).toUInt32 >>> ((Int32.ofInt 1).toUInt32 &&& Int32.toUInt32 31)).toInt32))))) SHF M) (r24 : ∀ (h1 : 0 < (((x) ^^^ (Int32.ofInt (-1))) &&& ((x) - (Int32.ofInt 1)) : Int32)), ∀ (h2 : ¬ ((((x) ^^^ (Int32.ofInt (-1))) &&& ((x) - (Int32.ofInt 1)) : Int32) ≤ (65536 : Int32))), ∀ (h18 : (((((x) ^^^ (Int32.ofInt (-1))) &&& ((x) - (Int32.ofInt 1))).toUInt32 >>> (((Int8.ofInt 16).toInt32).toUInt32 &&& Int32.toUInt32 31)).toInt32 : Int32) ≤ ((Int16.ofInt 256).toInt32 : Int32)), ∀ (h19 : ¬ ((((((x) ^^^ (Int32.ofInt (-1))) &&& ((x) - (Int32.ofInt 1))).toUInt32 >>> (((Int8.ofInt 16).toInt32).toUInt32 &&& Int32.toUInt32 31)).toInt32 : Int32) ≤ ((Int8.ofInt 16).toInt32 : Int32))), ∀ (h23 : (((((((x) ^^^ (Int32.ofInt (-1))) &&& ((x) - (Int32.ofInt 1))).toUInt32 >>> (((Int8.ofInt 16).toInt32).toUInt32 &&& Int32.toUInt32 31)).toInt32).toUInt32 >>> ((Int32.ofInt 4).toUInt32 &&& Int32.toUInt32 31)).toInt32 : Int32) ≤ (Int32.ofInt 4 : Int32)), P (.inl (some (.int ((((Int32.ofInt 1) + Int32.ofInt 16) + Int32.ofInt 4) + (((((((((x) ^^^ (Int32.ofInt (-1))) &&& ((x) - (Int32.ofInt 1))).toUInt32 >>> (((Int8.ofInt 16).toInt32).toUInt32 &&& Int32.toUInt32 31)).toInt32).toUInt32 >>> ((Int32.ofInt 4).toUInt32 &&& Int32.toUInt32 31)).toInt32).toUInt32 >>> ((Int32.ofInt 1).toUInt32 &&& Int32.toUInt32 31)).toInt32))))) SHF M) (r25 : ∀ (h1 : 0 < (((x) ^^^ (Int32.ofInt (-1))) &&& ((x) - (Int32.ofInt 1)) : Int32)), ∀ (h2 : ¬ ((((x) ^^^ (Int32.ofInt (-1))) &&& ((x) - (Int32.ofInt 1)) : Int32) ≤ (65536 : Int32))), ∀ (h18 : (((((x) ^^^ (Int32.ofInt (-1))) &&& ((x) - (Int32.ofInt 1))).toUInt32 >>> (((Int8.ofInt 16).toInt32).toUInt32 &&& Int32.toUInt32 31)).toInt32 : Int32) ≤ ((Int16.ofInt 256).toInt32 : Int32)), ∀ (h19 : ¬ ((((((x) ^^^ (Int32.ofInt (-1))) &&& ((x) - (Int32.ofInt 1))).toUInt32 >>> (((Int8.ofInt 16).toInt32).toUInt32 &&& Int32.toUInt32 31)).toInt32 : Int32) ≤ ((Int8.ofInt 16).toInt32 : Int32))), ∀ (h23 : ¬ ((((((((x) ^^^ (Int32.ofInt (-1))) &&& ((x) - (Int32.ofInt 1))).toUInt32 >>> (((Int8.ofInt 16).toInt32).toUInt32 &&& Int32.toUInt32 31)).toInt32).toUInt32 >>> ((Int32.ofInt 4).toUInt32 &&& Int32.toUInt32 31)).toInt32 : Int32) ≤ (Int32.ofInt 4 : Int32))), P (.inl (some (.int (((((Int32.ofInt 1) + Int32.ofInt 16) + Int32.ofInt 4) + Int32.ofInt 2) + (((((((((((x) ^^^ (Int32.ofInt (-1))) &&& ((x) - (Int32.ofInt 1))).toUInt32 >>> (((Int8.ofInt 16).toInt32).toUInt32 &&& Int32.toUInt32 31)).toInt32).toUInt32 >>> ((Int32.ofInt 4).toUInt32 &&& Int32.toUInt32 31)).toInt32).toUInt32 >>> ((Int32.ofInt 2).toUInt32 &&& Int32.toUInt32 31)).toInt32).toUInt32 >>> ((Int32.ofInt 1).toUInt32 &&& Int32.toUInt32 31)).toInt32))))) SHF M) (r28 : ∀ (h1 : 0 < (((x) ^^^ (Int32.ofInt (-1))) &&& ((x) - (Int32.ofInt 1)) : Int32)), ∀ (h2 : ¬ ((((x) ^^^ (Int32.ofInt (-1))) &&& ((x) - (Int32.ofInt 1)) : Int32) ≤ (65536 : Int32))), ∀ (h18 : ¬ ((((((x) ^^^ (Int32.ofInt (-1))) &&& ((x) - (Int32.ofInt 1))).toUInt32 >>> (((Int8.ofInt 16).toInt32).toUInt32 &&& Int32.toUInt32 31)).toInt32 : Int32) ≤ ((Int16.ofInt 256).toInt32 : Int32))), ∀ (h26 : (((((((x) ^^^ (Int32.ofInt (-1))) &&& ((x) - (Int32.ofInt 1))).toUInt32 >>> (((Int8.ofInt 16).toInt32).toUInt32 &&& Int32.toUInt32 31)).toInt32).toUInt32 >>> (((Int8.ofInt 8).toInt32).toUInt32 &&& Int32.toUInt32 31)).toInt32 : Int32) ≤ ((Int8.ofInt 16).toInt32 : Int32)), ∀ (h27 : (((((((x) ^^^ (Int32.ofInt (-1))) &&& ((x) - (Int32.ofInt 1))).toUInt32 >>> (((Int8.ofInt 16).toInt32).toUInt32 &&& Int32.toUInt32 31)).toInt32).toUInt32 >>> (((Int8.ofInt 8).toInt32).toUInt32 &&& Int32.toUInt32 31)).toInt32 : Int32) ≤ (Int32.ofInt 4 : Int32)), P (.inl (some (.int ((((Int32.ofInt 1) + Int32.ofInt 16) + Int32.ofInt 8) + (((((((((x) ^^^ (Int32.ofInt (-1))) &&& ((x) - (Int32.ofInt 1))).toUInt32 >>> (((Int8.ofInt 16).toInt32).toUInt32 &&& Int32.toUInt32 31)).toInt32).toUInt32 >>> (((Int8.ofInt 8).toInt32).toUInt32 &&& Int32.toUInt32 31)).toInt32).toUInt32 >>> ((Int32.ofInt 1).toUInt32 &&& Int32.toUInt32 31)).toInt32))))) SHF M) (r29 : ∀ (h1 : 0 < (((x) ^^^ (Int32.ofInt (-1))) &&& ((x) - (Int32.ofInt 1)) : Int32)), ∀ (h2 : ¬ ((((x) ^^^ (Int32.ofInt (-1))) &&& ((x) - (Int32.ofInt 1)) : Int32) ≤ (65536 : Int32))), ∀ (h18 : ¬ ((((((x) ^^^ (Int32.ofInt (-1))) &&& ((x) - (Int32.ofInt 1))).toUInt32 >>> (((Int8.ofInt 16).toInt32).toUInt32 &&& Int32.toUInt32 31)).toInt32 : Int32) ≤ ((Int16.ofInt 256).toInt32 : Int32))), ∀ (h26 : (((((((x) ^^^ (Int32.ofInt (-1))) &&& ((x) - (Int32.ofInt 1))).toUInt32 >>> (((Int8.ofInt 16).toInt32).toUInt32 &&& Int32.toUInt32 31)).toInt32).toUInt32 >>> (((Int8.ofInt 8).toInt32).toUInt32 &&& Int32.toUInt32 31)).toInt32 : Int32) ≤ ((Int8.ofInt 16).toInt32 : Int32)), ∀ (h27 : ¬ ((((((((x) ^^^ (Int32.ofInt (-1))) &&& ((x) - (Int32.ofInt 1))).toUInt32 >>> (((Int8.ofInt 16).toInt32).toUInt32 &&& Int32.toUInt32 31)).toInt32).toUInt32 >>> (((Int8.ofInt 8).toInt32).toUInt32 &&& Int32.toUInt32 31)).toInt32 : Int32) ≤ (Int32.ofInt 4 : Int32))), P (.inl (some (.int (((((Int32.ofInt 1) + Int32.ofInt 16) + Int32.ofInt 8) + Int32.ofInt 2) + (((((((((((x) ^^^ (Int32.ofInt (-1))) &&& ((x) - (Int32.ofInt 1))).toUInt32 >>> (((Int8.ofInt 16).toInt32).toUInt32 &&& Int32.toUInt32 31)).toInt32).toUInt32 >>> (((Int8.ofInt 8).toInt32).toUInt32 &&& Int32.toUInt32 31)).toInt32).toUInt32 >>> ((Int32.ofInt 2).toUInt32 &&& Int32.toUInt32 31)).toInt32).toUInt32 >>> ((Int32.ofInt 1).toUInt32 &&& Int32.toUInt32 31)).toInt32))))) SHF M) (r31 : ∀ (h1 : 0 < (((x) ^^^ (Int32.ofInt (-1))) &&& ((x) - (Int32.ofInt 1)) : Int32)), ∀ (h2 : ¬ ((((x) ^^^ (Int32.ofInt (-1))) &&& ((x) - (Int32.ofInt 1)) : Int32) ≤ (65536 : Int32))), ∀ (h18 : ¬ ((((((x) ^^^ (Int32.ofInt (-1))) &&& ((x) - (Int32.ofInt 1))).toUInt32 >>> (((Int8.ofInt 16).toInt32).toUInt32 &&& Int32.toUInt32 31)).toInt32 : Int32) ≤ ((Int16.ofInt 256).toInt32 : Int32))), ∀ (h26 : ¬ ((((((((x) ^^^ (Int32.ofInt (-1))) &&& ((x) - (Int32.ofInt 1))).toUInt32 >>> (((Int8.ofInt 16).toInt32).toUInt32 &&& Int32.toUInt32 31)).toInt32).toUInt32 >>> (((Int8.ofInt 8).toInt32).toUInt32 &&& Int32.toUInt32 31)).toInt32 : Int32) ≤ ((Int8.ofInt 16).toInt32 : Int32))), ∀ (h30 : (((((((((x) ^^^ (Int32.ofInt (-1))) &&& ((x) - (Int32.ofInt 1))).toUInt32 >>> (((Int8.ofInt 16).toInt32).toUInt32 &&& Int32.toUInt32 31)).toInt32).toUInt32 >>> (((Int8.ofInt 8).toInt32).toUInt32 &&& Int32.toUInt32 31)).toInt32).toUInt32 >>> ((Int32.ofInt 4).toUInt32 &&& Int32.toUInt32 31)).toInt32 : Int32) ≤ (Int32.ofInt 4 : Int32)), P (.inl (some (.int (((((Int32.ofInt 1) + Int32.ofInt 16) + Int32.ofInt 8) + Int32.ofInt 4) + (((((((((((x) ^^^ (Int32.ofInt (-1))) &&& ((x) - (Int32.ofInt 1))).toUInt32 >>> (((Int8.ofInt 16).toInt32).toUInt32 &&& Int32.toUInt32 31)).toInt32).toUInt32 >>> (((Int8.ofInt 8).toInt32).toUInt32 &&& Int32.toUInt32 31)).toInt32).toUInt32 >>> ((Int32.ofInt 4).toUInt32 &&& Int32.toUInt32 31)).toInt32).toUInt32 >>> ((Int32.ofInt 1).toUInt32 &&& Int32.toUInt32 31)).toInt32))))) SHF M) (r32 : ∀ (h1 : 0 < (((x) ^^^ (Int32.ofInt (-1))) &&& ((x) - (Int32.ofInt 1)) : Int32)), ∀ (h2 : ¬ ((((x) ^^^ (Int32.ofInt (-1))) &&& ((x) - (Int32.ofInt 1)) : Int32) ≤ (65536 : Int32))), ∀ (h18 : ¬ ((((((x) ^^^ (Int32.ofInt (-1))) &&& ((x) - (Int32.ofInt 1))).toUInt32 >>> (((Int8.ofInt 16).toInt32).toUInt32 &&& Int32.toUInt32 31)).toInt32 : Int32) ≤ ((Int16.ofInt 256).toInt32 : Int32))), ∀ (h26 : ¬ ((((((((x) ^^^ (Int32.ofInt (-1))) &&& ((x) - (Int32.ofInt 1))).toUInt32 >>> (((Int8.ofInt 16).toInt32).toUInt32 &&& Int32.toUInt32 31)).toInt32).toUInt32 >>> (((Int8.ofInt 8).toInt32).toUInt32 &&& Int32.toUInt32 31)).toInt32 : Int32) ≤ ((Int8.ofInt 16).toInt32 : Int32))), ∀ (h30 : ¬ ((((((((((x) ^^^ (Int32.ofInt (-1))) &&& ((x) - (Int32.ofInt 1))).toUInt32 >>> (((Int8.ofInt 16).toInt32).toUInt32 &&& Int32.toUInt32 31)).toInt32).toUInt32 >>> (((Int8.ofInt 8).toInt32).toUInt32 &&& Int32.toUInt32 31)).toInt32).toUInt32 >>> ((Int32.ofInt 4).toUInt32 &&& Int32.toUInt32 31)).toInt32 : Int32) ≤ (Int32.ofInt 4 : Int32))), P (.inl (some (.int ((((((Int32.ofInt 1) + Int32.ofInt 16) + Int32.ofInt 8) + Int32.ofInt 4) + Int32.ofInt 2) + (((((((((((((x) ^^^ (Int32.ofInt (-1))) &&& ((x) - (Int32.ofInt 1))).toUInt32 >>> (((Int8.ofInt 16).toInt32).toUInt32 &&& Int32.toUInt32 31)).toInt32).toUInt32 >>> (((Int8.ofInt 8).toInt32).toUInt32 &&& Int32.toUInt32 31)).toInt32).toUInt32 >>> ((Int32.ofInt 4).toUInt32 &&& Int32.toUInt32 31)).toInt32).toUInt32 >>> ((Int32.ofInt 2).toUInt32 &&& Int32.toUInt32 31)).toInt32).toUInt32 >>> ((Int32.ofInt 1).toUInt32 &&& Int32.toUInt32 31)).toInt32))))) SHF M) (r33 : ∀ (h1 : ¬ (0 < (((x) ^^^ (Int32.ofInt (-1))) &&& ((x) - (Int32.ofInt 1)) : Int32))), P (.inl (some (.int ((((x) ^^^ (Int32.ofInt (-1))) &&& ((x) - (Int32.ofInt 1))) &&& ((Int8.ofInt 32).toInt32))))) SHF M) : AW l (pI pg 107) P kc ks 0 [(0, .int (x))] [] SHF M := by
  refine AW.iload_n (dq rfl) rfl ?_
  show AW l (pI pg 107) P kc ks 1 _ _ SHF _
  refine AW.iconst (dq rfl) ?_
  show AW l (pI pg 107) P kc ks 2 _ _ SHF _
  refine AW.ixor (dq rfl) ?_
  show AW l (pI pg 107) P kc ks 3 _ _ SHF _
  refine AW.iload_n (dq rfl) rfl ?_
  show AW l (pI pg 107) P kc ks 4 _ _ SHF _
  refine AW.iconst (dq rfl) ?_
  show AW l (pI pg 107) P kc ks 5 _ _ SHF _
  refine AW.isub (dq rfl) ?_
  show AW l (pI pg 107) P kc ks 6 _ _ SHF _
  refine AW.iand (dq rfl) ?_
  show AW l (pI pg 107) P kc ks 7 _ _ SHF _
  refine AW.istore_n (dq rfl) (by decide +kernel) ?_
  show AW l (pI pg 107) P kc ks 8 [(0, .int (((x) ^^^ (Int32.ofInt (-1))) &&& ((x) - (Int32.ofInt 1))))] [] SHF _
  refine AW.iload_n (dq rfl) rfl ?_
  show AW l (pI pg 107) P kc ks 9 _ _ SHF _
  refine AW.if_gt (dq rfl) (tgt := 17) (by decide) (fun h1 => ?_) (fun h1 => ?_)
  · have _ := h1
    refine AW.iconst (dq rfl) ?_
    show AW l (pI pg 107) P kc ks 18 _ _ SHF _
    refine AW.istore_n (dq rfl) (by decide +kernel) ?_
    show AW l (pI pg 107) P kc ks 19 [(1, .int (Int32.ofInt 1)), (0, .int (((x) ^^^ (Int32.ofInt (-1))) &&& ((x) - (Int32.ofInt 1))))] [] SHF _
    refine AW.iload_n (dq rfl) rfl ?_
    show AW l (pI pg 107) P kc ks 20 _ _ SHF _
    refine AW.ldcw (dq rfl) (pg_ok.2.2.2.2.1 107 _ 65536 rfl) ?_
    show AW l (pI pg 107) P kc ks 23 _ _ SHF _
    refine AW.icmp_le (dq rfl) (tgt := 34) (by decide) (fun h2 => ?_) (fun h2 => ?_)
    · have _ := h2
      refine AW.iload_n (dq rfl) rfl ?_
      show AW l (pI pg 107) P kc ks 35 _ _ SHF _
      refine AW.sipush (dq rfl) ?_
      show AW l (pI pg 107) P kc ks 38 _ _ SHF _
      refine AW.icmp_le (dq rfl) (tgt := 49) (by decide) (fun h3 => ?_) (fun h3 => ?_)
      · have _ := h3
        refine AW.iload_n (dq rfl) rfl ?_
        show AW l (pI pg 107) P kc ks 50 _ _ SHF _
        refine AW.bipush (dq rfl) ?_
        show AW l (pI pg 107) P kc ks 52 _ _ SHF _
        refine AW.icmp_le (dq rfl) (tgt := 62) (by decide) (fun h4 => ?_) (fun h4 => ?_)
        · have _ := h4
          refine AW.iload_n (dq rfl) rfl ?_
          show AW l (pI pg 107) P kc ks 63 _ _ SHF _
          refine AW.iconst (dq rfl) ?_
          show AW l (pI pg 107) P kc ks 64 _ _ SHF _
          refine AW.icmp_le (dq rfl) (tgt := 74) (by decide) (fun h5 => ?_) (fun h5 => ?_)
          · have _ := h5
            refine AW.iload_n (dq rfl) rfl ?_
            show AW l (pI pg 107) P kc ks 75 _ _ SHF _
            refine AW.iload_n (dq rfl) rfl ?_
            show AW l (pI pg 107) P kc ks 76 _ _ SHF _
            refine AW.iconst (dq rfl) ?_
            show AW l (pI pg 107) P kc ks 77 _ _ SHF _
            refine AW.iushr (dq rfl) ?_
            show AW l (pI pg 107) P kc ks 78 _ _ SHF _
            refine AW.iadd (dq rfl) ?_
            show AW l (pI pg 107) P kc ks 79 _ _ SHF _
            refine AW.iret (dq rfl) rfl ?_
            exact r6 h1 h2 h3 h4 h5
          · have _ := h5
            refine AW.iinc (dq rfl) rfl (by decide +kernel) ?_
            show AW l (pI pg 107) P kc ks 70 [(1, .int ((Int32.ofInt 1) + Int32.ofInt 2)), (0, .int (((x) ^^^ (Int32.ofInt (-1))) &&& ((x) - (Int32.ofInt 1))))] [] SHF _
            refine AW.iload_n (dq rfl) rfl ?_
            show AW l (pI pg 107) P kc ks 71 _ _ SHF _
            refine AW.iconst (dq rfl) ?_
            show AW l (pI pg 107) P kc ks 72 _ _ SHF _
            refine AW.iushr (dq rfl) ?_
            show AW l (pI pg 107) P kc ks 73 _ _ SHF _
            refine AW.istore_n (dq rfl) (by decide +kernel) ?_
            show AW l (pI pg 107) P kc ks 74 [(0, .int (((((x) ^^^ (Int32.ofInt (-1))) &&& ((x) - (Int32.ofInt 1))).toUInt32 >>> ((Int32.ofInt 2).toUInt32 &&& Int32.toUInt32 31)).toInt32)), (1, .int ((Int32.ofInt 1) + Int32.ofInt 2))] [] SHF _
            refine AW.iload_n (dq rfl) rfl ?_
            show AW l (pI pg 107) P kc ks 75 _ _ SHF _
            refine AW.iload_n (dq rfl) rfl ?_
            show AW l (pI pg 107) P kc ks 76 _ _ SHF _
            refine AW.iconst (dq rfl) ?_
            show AW l (pI pg 107) P kc ks 77 _ _ SHF _
            refine AW.iushr (dq rfl) ?_
            show AW l (pI pg 107) P kc ks 78 _ _ SHF _
            refine AW.iadd (dq rfl) ?_
            show AW l (pI pg 107) P kc ks 79 _ _ SHF _
            refine AW.iret (dq rfl) rfl ?_
            exact r7 h1 h2 h3 h4 h5
        · have _ := h4
          refine AW.iinc (dq rfl) rfl (by decide +kernel) ?_
          show AW l (pI pg 107) P kc ks 58 [(1, .int ((Int32.ofInt 1) + Int32.ofInt 4)), (0, .int (((x) ^^^ (Int32.ofInt (-1))) &&& ((x) - (Int32.ofInt 1))))] [] SHF _
          refine AW.iload_n (dq rfl) rfl ?_
          show AW l (pI pg 107) P kc ks 59 _ _ SHF _
          refine AW.iconst (dq rfl) ?_
          show AW l (pI pg 107) P kc ks 60 _ _ SHF _
          refine AW.iushr (dq rfl) ?_
          show AW l (pI pg 107) P kc ks 61 _ _ SHF _
          refine AW.istore_n (dq rfl) (by decide +kernel) ?_
          show AW l (pI pg 107) P kc ks 62 [(0, .int (((((x) ^^^ (Int32.ofInt (-1))) &&& ((x) - (Int32.ofInt 1))).toUInt32 >>> ((Int32.ofInt 4).toUInt32 &&& Int32.toUInt32 31)).toInt32)), (1, .int ((Int32.ofInt 1) + Int32.ofInt 4))] [] SHF _
          refine AW.iload_n (dq rfl) rfl ?_
          show AW l (pI pg 107) P kc ks 63 _ _ SHF _
          refine AW.iconst (dq rfl) ?_
          show AW l (pI pg 107) P kc ks 64 _ _ SHF _
          refine AW.icmp_le (dq rfl) (tgt := 74) (by decide) (fun h8 => ?_) (fun h8 => ?_)
          · have _ := h8
            refine AW.iload_n (dq rfl) rfl ?_
            show AW l (pI pg 107) P kc ks 75 _ _ SHF _
            refine AW.iload_n (dq rfl) rfl ?_
            show AW l (pI pg 107) P kc ks 76 _ _ SHF _
            refine AW.iconst (dq rfl) ?_
            show AW l (pI pg 107) P kc ks 77 _ _ SHF _
            refine AW.iushr (dq rfl) ?_
            show AW l (pI pg 107) P kc ks 78 _ _ SHF _
            refine AW.iadd (dq rfl) ?_
            show AW l (pI pg 107) P kc ks 79 _ _ SHF _
            refine AW.iret (dq rfl) rfl ?_
            exact r9 h1 h2 h3 h4 h8
          · have _ := h8
            refine AW.iinc (dq rfl) rfl (by decide +kernel) ?_
            show AW l (pI pg 107) P kc ks 70 [(1, .int (((Int32.ofInt 1) + Int32.ofInt 4) + Int32.ofInt 2)), (0, .int (((((x) ^^^ (Int32.ofInt (-1))) &&& ((x) - (Int32.ofInt 1))).toUInt32 >>> ((Int32.ofInt 4).toUInt32 &&& Int32.toUInt32 31)).toInt32))] [] SHF _
            refine AW.iload_n (dq rfl) rfl ?_
            show AW l (pI pg 107) P kc ks 71 _ _ SHF _
            refine AW.iconst (dq rfl) ?_
            show AW l (pI pg 107) P kc ks 72 _ _ SHF _
            refine AW.iushr (dq rfl) ?_
            show AW l (pI pg 107) P kc ks 73 _ _ SHF _
            refine AW.istore_n (dq rfl) (by decide +kernel) ?_
            show AW l (pI pg 107) P kc ks 74 [(0, .int (((((((x) ^^^ (Int32.ofInt (-1))) &&& ((x) - (Int32.ofInt 1))).toUInt32 >>> ((Int32.ofInt 4).toUInt32 &&& Int32.toUInt32 31)).toInt32).toUInt32 >>> ((Int32.ofInt 2).toUInt32 &&& Int32.toUInt32 31)).toInt32)), (1, .int (((Int32.ofInt 1) + Int32.ofInt 4) + Int32.ofInt 2))] [] SHF _
            refine AW.iload_n (dq rfl) rfl ?_
            show AW l (pI pg 107) P kc ks 75 _ _ SHF _
            refine AW.iload_n (dq rfl) rfl ?_
            show AW l (pI pg 107) P kc ks 76 _ _ SHF _
            refine AW.iconst (dq rfl) ?_
            show AW l (pI pg 107) P kc ks 77 _ _ SHF _
            refine AW.iushr (dq rfl) ?_
            show AW l (pI pg 107) P kc ks 78 _ _ SHF _
            refine AW.iadd (dq rfl) ?_
            show AW l (pI pg 107) P kc ks 79 _ _ SHF _
            refine AW.iret (dq rfl) rfl ?_
            exact r10 h1 h2 h3 h4 h8
      · have _ := h3
        refine AW.iinc (dq rfl) rfl (by decide +kernel) ?_
        show AW l (pI pg 107) P kc ks 44 [(1, .int ((Int32.ofInt 1) + Int32.ofInt 8)), (0, .int (((x) ^^^ (Int32.ofInt (-1))) &&& ((x) - (Int32.ofInt 1))))] [] SHF _
        refine AW.iload_n (dq rfl) rfl ?_
        show AW l (pI pg 107) P kc ks 45 _ _ SHF _
        refine AW.bipush (dq rfl) ?_
        show AW l (pI pg 107) P kc ks 47 _ _ SHF _
        refine AW.iushr (dq rfl) ?_
        show AW l (pI pg 107) P kc ks 48 _ _ SHF _
        refine AW.istore_n (dq rfl) (by decide +kernel) ?_
        show AW l (pI pg 107) P kc ks 49 [(0, .int (((((x) ^^^ (Int32.ofInt (-1))) &&& ((x) - (Int32.ofInt 1))).toUInt32 >>> (((Int8.ofInt 8).toInt32).toUInt32 &&& Int32.toUInt32 31)).toInt32)), (1, .int ((Int32.ofInt 1) + Int32.ofInt 8))] [] SHF _
        refine AW.iload_n (dq rfl) rfl ?_
        show AW l (pI pg 107) P kc ks 50 _ _ SHF _
        refine AW.bipush (dq rfl) ?_
        show AW l (pI pg 107) P kc ks 52 _ _ SHF _
        refine AW.icmp_le (dq rfl) (tgt := 62) (by decide) (fun h11 => ?_) (fun h11 => ?_)
        · have _ := h11
          refine AW.iload_n (dq rfl) rfl ?_
          show AW l (pI pg 107) P kc ks 63 _ _ SHF _
          refine AW.iconst (dq rfl) ?_
          show AW l (pI pg 107) P kc ks 64 _ _ SHF _
          refine AW.icmp_le (dq rfl) (tgt := 74) (by decide) (fun h12 => ?_) (fun h12 => ?_)
          · have _ := h12
            refine AW.iload_n (dq rfl) rfl ?_
            show AW l (pI pg 107) P kc ks 75 _ _ SHF _
            refine AW.iload_n (dq rfl) rfl ?_
            show AW l (pI pg 107) P kc ks 76 _ _ SHF _
            refine AW.iconst (dq rfl) ?_
            show AW l (pI pg 107) P kc ks 77 _ _ SHF _
            refine AW.iushr (dq rfl) ?_
            show AW l (pI pg 107) P kc ks 78 _ _ SHF _
            refine AW.iadd (dq rfl) ?_
            show AW l (pI pg 107) P kc ks 79 _ _ SHF _
            refine AW.iret (dq rfl) rfl ?_
            exact r13 h1 h2 h3 h11 h12
          · have _ := h12
            refine AW.iinc (dq rfl) rfl (by decide +kernel) ?_
            show AW l (pI pg 107) P kc ks 70 [(1, .int (((Int32.ofInt 1) + Int32.ofInt 8) + Int32.ofInt 2)), (0, .int (((((x) ^^^ (Int32.ofInt (-1))) &&& ((x) - (Int32.ofInt 1))).toUInt32 >>> (((Int8.ofInt 8).toInt32).toUInt32 &&& Int32.toUInt32 31)).toInt32))] [] SHF _
            refine AW.iload_n (dq rfl) rfl ?_
            show AW l (pI pg 107) P kc ks 71 _ _ SHF _
            refine AW.iconst (dq rfl) ?_
            show AW l (pI pg 107) P kc ks 72 _ _ SHF _
            refine AW.iushr (dq rfl) ?_
            show AW l (pI pg 107) P kc ks 73 _ _ SHF _
            refine AW.istore_n (dq rfl) (by decide +kernel) ?_
            show AW l (pI pg 107) P kc ks 74 [(0, .int (((((((x) ^^^ (Int32.ofInt (-1))) &&& ((x) - (Int32.ofInt 1))).toUInt32 >>> (((Int8.ofInt 8).toInt32).toUInt32 &&& Int32.toUInt32 31)).toInt32).toUInt32 >>> ((Int32.ofInt 2).toUInt32 &&& Int32.toUInt32 31)).toInt32)), (1, .int (((Int32.ofInt 1) + Int32.ofInt 8) + Int32.ofInt 2))] [] SHF _
            refine AW.iload_n (dq rfl) rfl ?_
            show AW l (pI pg 107) P kc ks 75 _ _ SHF _
            refine AW.iload_n (dq rfl) rfl ?_
            show AW l (pI pg 107) P kc ks 76 _ _ SHF _
            refine AW.iconst (dq rfl) ?_
            show AW l (pI pg 107) P kc ks 77 _ _ SHF _
            refine AW.iushr (dq rfl) ?_
            show AW l (pI pg 107) P kc ks 78 _ _ SHF _
            refine AW.iadd (dq rfl) ?_
            show AW l (pI pg 107) P kc ks 79 _ _ SHF _
            refine AW.iret (dq rfl) rfl ?_
            exact r14 h1 h2 h3 h11 h12
        · have _ := h11
          refine AW.iinc (dq rfl) rfl (by decide +kernel) ?_
          show AW l (pI pg 107) P kc ks 58 [(1, .int (((Int32.ofInt 1) + Int32.ofInt 8) + Int32.ofInt 4)), (0, .int (((((x) ^^^ (Int32.ofInt (-1))) &&& ((x) - (Int32.ofInt 1))).toUInt32 >>> (((Int8.ofInt 8).toInt32).toUInt32 &&& Int32.toUInt32 31)).toInt32))] [] SHF _
          refine AW.iload_n (dq rfl) rfl ?_
          show AW l (pI pg 107) P kc ks 59 _ _ SHF _
          refine AW.iconst (dq rfl) ?_
          show AW l (pI pg 107) P kc ks 60 _ _ SHF _
          refine AW.iushr (dq rfl) ?_
          show AW l (pI pg 107) P kc ks 61 _ _ SHF _
          refine AW.istore_n (dq rfl) (by decide +kernel) ?_
          show AW l (pI pg 107) P kc ks 62 [(0, .int (((((((x) ^^^ (Int32.ofInt (-1))) &&& ((x) - (Int32.ofInt 1))).toUInt32 >>> (((Int8.ofInt 8).toInt32).toUInt32 &&& Int32.toUInt32 31)).toInt32).toUInt32 >>> ((Int32.ofInt 4).toUInt32 &&& Int32.toUInt32 31)).toInt32)), (1, .int (((Int32.ofInt 1) + Int32.ofInt 8) + Int32.ofInt 4))] [] SHF _
          refine AW.iload_n (dq rfl) rfl ?_
          show AW l (pI pg 107) P kc ks 63 _ _ SHF _
          refine AW.iconst (dq rfl) ?_
          show AW l (pI pg 107) P kc ks 64 _ _ SHF _
          refine AW.icmp_le (dq rfl) (tgt := 74) (by decide) (fun h15 => ?_) (fun h15 => ?_)
          · have _ := h15
            refine AW.iload_n (dq rfl) rfl ?_
            show AW l (pI pg 107) P kc ks 75 _ _ SHF _
            refine AW.iload_n (dq rfl) rfl ?_
            show AW l (pI pg 107) P kc ks 76 _ _ SHF _
            refine AW.iconst (dq rfl) ?_
            show AW l (pI pg 107) P kc ks 77 _ _ SHF _
            refine AW.iushr (dq rfl) ?_
            show AW l (pI pg 107) P kc ks 78 _ _ SHF _
            refine AW.iadd (dq rfl) ?_
            show AW l (pI pg 107) P kc ks 79 _ _ SHF _
            refine AW.iret (dq rfl) rfl ?_
            exact r16 h1 h2 h3 h11 h15
          · have _ := h15
            refine AW.iinc (dq rfl) rfl (by decide +kernel) ?_
            show AW l (pI pg 107) P kc ks 70 [(1, .int ((((Int32.ofInt 1) + Int32.ofInt 8) + Int32.ofInt 4) + Int32.ofInt 2)), (0, .int (((((((x) ^^^ (Int32.ofInt (-1))) &&& ((x) - (Int32.ofInt 1))).toUInt32 >>> (((Int8.ofInt 8).toInt32).toUInt32 &&& Int32.toUInt32 31)).toInt32).toUInt32 >>> ((Int32.ofInt 4).toUInt32 &&& Int32.toUInt32 31)).toInt32))] [] SHF _
            refine AW.iload_n (dq rfl) rfl ?_
            show AW l (pI pg 107) P kc ks 71 _ _ SHF _
            refine AW.iconst (dq rfl) ?_
            show AW l (pI pg 107) P kc ks 72 _ _ SHF _
            refine AW.iushr (dq rfl) ?_
            show AW l (pI pg 107) P kc ks 73 _ _ SHF _
            refine AW.istore_n (dq rfl) (by decide +kernel) ?_
            show AW l (pI pg 107) P kc ks 74 [(0, .int (((((((((x) ^^^ (Int32.ofInt (-1))) &&& ((x) - (Int32.ofInt 1))).toUInt32 >>> (((Int8.ofInt 8).toInt32).toUInt32 &&& Int32.toUInt32 31)).toInt32).toUInt32 >>> ((Int32.ofInt 4).toUInt32 &&& Int32.toUInt32 31)).toInt32).toUInt32 >>> ((Int32.ofInt 2).toUInt32 &&& Int32.toUInt32 31)).toInt32)), (1, .int ((((Int32.ofInt 1) + Int32.ofInt 8) + Int32.ofInt 4) + Int32.ofInt 2))] [] SHF _
            refine AW.iload_n (dq rfl) rfl ?_
            show AW l (pI pg 107) P kc ks 75 _ _ SHF _
            refine AW.iload_n (dq rfl) rfl ?_
            show AW l (pI pg 107) P kc ks 76 _ _ SHF _
            refine AW.iconst (dq rfl) ?_
            show AW l (pI pg 107) P kc ks 77 _ _ SHF _
            refine AW.iushr (dq rfl) ?_
            show AW l (pI pg 107) P kc ks 78 _ _ SHF _
            refine AW.iadd (dq rfl) ?_
            show AW l (pI pg 107) P kc ks 79 _ _ SHF _
            refine AW.iret (dq rfl) rfl ?_
            exact r17 h1 h2 h3 h11 h15
    · have _ := h2
      refine AW.iinc (dq rfl) rfl (by decide +kernel) ?_
      show AW l (pI pg 107) P kc ks 29 [(1, .int ((Int32.ofInt 1) + Int32.ofInt 16)), (0, .int (((x) ^^^ (Int32.ofInt (-1))) &&& ((x) - (Int32.ofInt 1))))] [] SHF _
      refine AW.iload_n (dq rfl) rfl ?_
      show AW l (pI pg 107) P kc ks 30 _ _ SHF _
      refine AW.bipush (dq rfl) ?_
      show AW l (pI pg 107) P kc ks 32 _ _ SHF _
      refine AW.iushr (dq rfl) ?_
      show AW l (pI pg 107) P kc ks 33 _ _ SHF _
      refine AW.istore_n (dq rfl) (by decide +kernel) ?_
      show AW l (pI pg 107) P kc ks 34 [(0, .int (((((x) ^^^ (Int32.ofInt (-1))) &&& ((x) - (Int32.ofInt 1))).toUInt32 >>> (((Int8.ofInt 16).toInt32).toUInt32 &&& Int32.toUInt32 31)).toInt32)), (1, .int ((Int32.ofInt 1) + Int32.ofInt 16))] [] SHF _
      refine AW.iload_n (dq rfl) rfl ?_
      show AW l (pI pg 107) P kc ks 35 _ _ SHF _
      refine AW.sipush (dq rfl) ?_
      show AW l (pI pg 107) P kc ks 38 _ _ SHF _
      refine AW.icmp_le (dq rfl) (tgt := 49) (by decide) (fun h18 => ?_) (fun h18 => ?_)
      · have _ := h18
        refine AW.iload_n (dq rfl) rfl ?_
        show AW l (pI pg 107) P kc ks 50 _ _ SHF _
        refine AW.bipush (dq rfl) ?_
        show AW l (pI pg 107) P kc ks 52 _ _ SHF _
        refine AW.icmp_le (dq rfl) (tgt := 62) (by decide) (fun h19 => ?_) (fun h19 => ?_)
        · have _ := h19
          refine AW.iload_n (dq rfl) rfl ?_
          show AW l (pI pg 107) P kc ks 63 _ _ SHF _
          refine AW.iconst (dq rfl) ?_
          show AW l (pI pg 107) P kc ks 64 _ _ SHF _
          refine AW.icmp_le (dq rfl) (tgt := 74) (by decide) (fun h20 => ?_) (fun h20 => ?_)
          · have _ := h20
            refine AW.iload_n (dq rfl) rfl ?_
            show AW l (pI pg 107) P kc ks 75 _ _ SHF _
            refine AW.iload_n (dq rfl) rfl ?_
            show AW l (pI pg 107) P kc ks 76 _ _ SHF _
            refine AW.iconst (dq rfl) ?_
            show AW l (pI pg 107) P kc ks 77 _ _ SHF _
            refine AW.iushr (dq rfl) ?_
            show AW l (pI pg 107) P kc ks 78 _ _ SHF _
            refine AW.iadd (dq rfl) ?_
            show AW l (pI pg 107) P kc ks 79 _ _ SHF _
            refine AW.iret (dq rfl) rfl ?_
            exact r21 h1 h2 h18 h19 h20
          · have _ := h20
            refine AW.iinc (dq rfl) rfl (by decide +kernel) ?_
            show AW l (pI pg 107) P kc ks 70 [(1, .int (((Int32.ofInt 1) + Int32.ofInt 16) + Int32.ofInt 2)), (0, .int (((((x) ^^^ (Int32.ofInt (-1))) &&& ((x) - (Int32.ofInt 1))).toUInt32 >>> (((Int8.ofInt 16).toInt32).toUInt32 &&& Int32.toUInt32 31)).toInt32))] [] SHF _
            refine AW.iload_n (dq rfl) rfl ?_
            show AW l (pI pg 107) P kc ks 71 _ _ SHF _
            refine AW.iconst (dq rfl) ?_
            show AW l (pI pg 107) P kc ks 72 _ _ SHF _
            refine AW.iushr (dq rfl) ?_
            show AW l (pI pg 107) P kc ks 73 _ _ SHF _
            refine AW.istore_n (dq rfl) (by decide +kernel) ?_
            show AW l (pI pg 107) P kc ks 74 [(0, .int (((((((x) ^^^ (Int32.ofInt (-1))) &&& ((x) - (Int32.ofInt 1))).toUInt32 >>> (((Int8.ofInt 16).toInt32).toUInt32 &&& Int32.toUInt32 31)).toInt32).toUInt32 >>> ((Int32.ofInt 2).toUInt32 &&& Int32.toUInt32 31)).toInt32)), (1, .int (((Int32.ofInt 1) + Int32.ofInt 16) + Int32.ofInt 2))] [] SHF _
            refine AW.iload_n (dq rfl) rfl ?_
            show AW l (pI pg 107) P kc ks 75 _ _ SHF _
            refine AW.iload_n (dq rfl) rfl ?_
            show AW l (pI pg 107) P kc ks 76 _ _ SHF _
            refine AW.iconst (dq rfl) ?_
            show AW l (pI pg 107) P kc ks 77 _ _ SHF _
            refine AW.iushr (dq rfl) ?_
            show AW l (pI pg 107) P kc ks 78 _ _ SHF _
            refine AW.iadd (dq rfl) ?_
            show AW l (pI pg 107) P kc ks 79 _ _ SHF _
            refine AW.iret (dq rfl) rfl ?_
            exact r22 h1 h2 h18 h19 h20
        · have _ := h19
          refine AW.iinc (dq rfl) rfl (by decide +kernel) ?_
          show AW l (pI pg 107) P kc ks 58 [(1, .int (((Int32.ofInt 1) + Int32.ofInt 16) + Int32.ofInt 4)), (0, .int (((((x) ^^^ (Int32.ofInt (-1))) &&& ((x) - (Int32.ofInt 1))).toUInt32 >>> (((Int8.ofInt 16).toInt32).toUInt32 &&& Int32.toUInt32 31)).toInt32))] [] SHF _
          refine AW.iload_n (dq rfl) rfl ?_
          show AW l (pI pg 107) P kc ks 59 _ _ SHF _
          refine AW.iconst (dq rfl) ?_
          show AW l (pI pg 107) P kc ks 60 _ _ SHF _
          refine AW.iushr (dq rfl) ?_
          show AW l (pI pg 107) P kc ks 61 _ _ SHF _
          refine AW.istore_n (dq rfl) (by decide +kernel) ?_
          show AW l (pI pg 107) P kc ks 62 [(0, .int (((((((x) ^^^ (Int32.ofInt (-1))) &&& ((x) - (Int32.ofInt 1))).toUInt32 >>> (((Int8.ofInt 16).toInt32).toUInt32 &&& Int32.toUInt32 31)).toInt32).toUInt32 >>> ((Int32.ofInt 4).toUInt32 &&& Int32.toUInt32 31)).toInt32)), (1, .int (((Int32.ofInt 1) + Int32.ofInt 16) + Int32.ofInt 4))] [] SHF _
          refine AW.iload_n (dq rfl) rfl ?_
          show AW l (pI pg 107) P kc ks 63 _ _ SHF _
          refine AW.iconst (dq rfl) ?_
          show AW l (pI pg 107) P kc ks 64 _ _ SHF _
          refine AW.icmp_le (dq rfl) (tgt := 74) (by decide) (fun h23 => ?_) (fun h23 => ?_)
          · have _ := h23
            refine AW.iload_n (dq rfl) rfl ?_
            show AW l (pI pg 107) P kc ks 75 _ _ SHF _
            refine AW.iload_n (dq rfl) rfl ?_
            show AW l (pI pg 107) P kc ks 76 _ _ SHF _
            refine AW.iconst (dq rfl) ?_
            show AW l (pI pg 107) P kc ks 77 _ _ SHF _
            refine AW.iushr (dq rfl) ?_
            show AW l (pI pg 107) P kc ks 78 _ _ SHF _
            refine AW.iadd (dq rfl) ?_
            show AW l (pI pg 107) P kc ks 79 _ _ SHF _
            refine AW.iret (dq rfl) rfl ?_
            exact r24 h1 h2 h18 h19 h23
          · have _ := h23
            refine AW.iinc (dq rfl) rfl (by decide +kernel) ?_
            show AW l (pI pg 107) P kc ks 70 [(1, .int ((((Int32.ofInt 1) + Int32.ofInt 16) + Int32.ofInt 4) + Int32.ofInt 2)), (0, .int (((((((x) ^^^ (Int32.ofInt (-1))) &&& ((x) - (Int32.ofInt 1))).toUInt32 >>> (((Int8.ofInt 16).toInt32).toUInt32 &&& Int32.toUInt32 31)).toInt32).toUInt32 >>> ((Int32.ofInt 4).toUInt32 &&& Int32.toUInt32 31)).toInt32))] [] SHF _
            refine AW.iload_n (dq rfl) rfl ?_
            show AW l (pI pg 107) P kc ks 71 _ _ SHF _
            refine AW.iconst (dq rfl) ?_
            show AW l (pI pg 107) P kc ks 72 _ _ SHF _
            refine AW.iushr (dq rfl) ?_
            show AW l (pI pg 107) P kc ks 73 _ _ SHF _
            refine AW.istore_n (dq rfl) (by decide +kernel) ?_
            show AW l (pI pg 107) P kc ks 74 [(0, .int (((((((((x) ^^^ (Int32.ofInt (-1))) &&& ((x) - (Int32.ofInt 1))).toUInt32 >>> (((Int8.ofInt 16).toInt32).toUInt32 &&& Int32.toUInt32 31)).toInt32).toUInt32 >>> ((Int32.ofInt 4).toUInt32 &&& Int32.toUInt32 31)).toInt32).toUInt32 >>> ((Int32.ofInt 2).toUInt32 &&& Int32.toUInt32 31)).toInt32)), (1, .int ((((Int32.ofInt 1) + Int32.ofInt 16) + Int32.ofInt 4) + Int32.ofInt 2))] [] SHF _
            refine AW.iload_n (dq rfl) rfl ?_
            show AW l (pI pg 107) P kc ks 75 _ _ SHF _
            refine AW.iload_n (dq rfl) rfl ?_
            show AW l (pI pg 107) P kc ks 76 _ _ SHF _
            refine AW.iconst (dq rfl) ?_
            show AW l (pI pg 107) P kc ks 77 _ _ SHF _
            refine AW.iushr (dq rfl) ?_
            show AW l (pI pg 107) P kc ks 78 _ _ SHF _
            refine AW.iadd (dq rfl) ?_
            show AW l (pI pg 107) P kc ks 79 _ _ SHF _
            refine AW.iret (dq rfl) rfl ?_
            exact r25 h1 h2 h18 h19 h23
      · have _ := h18
        refine AW.iinc (dq rfl) rfl (by decide +kernel) ?_
        show AW l (pI pg 107) P kc ks 44 [(1, .int (((Int32.ofInt 1) + Int32.ofInt 16) + Int32.ofInt 8)), (0, .int (((((x) ^^^ (Int32.ofInt (-1))) &&& ((x) - (Int32.ofInt 1))).toUInt32 >>> (((Int8.ofInt 16).toInt32).toUInt32 &&& Int32.toUInt32 31)).toInt32))] [] SHF _
        refine AW.iload_n (dq rfl) rfl ?_
        show AW l (pI pg 107) P kc ks 45 _ _ SHF _
        refine AW.bipush (dq rfl) ?_
        show AW l (pI pg 107) P kc ks 47 _ _ SHF _
        refine AW.iushr (dq rfl) ?_
        show AW l (pI pg 107) P kc ks 48 _ _ SHF _
        refine AW.istore_n (dq rfl) (by decide +kernel) ?_
        show AW l (pI pg 107) P kc ks 49 [(0, .int (((((((x) ^^^ (Int32.ofInt (-1))) &&& ((x) - (Int32.ofInt 1))).toUInt32 >>> (((Int8.ofInt 16).toInt32).toUInt32 &&& Int32.toUInt32 31)).toInt32).toUInt32 >>> (((Int8.ofInt 8).toInt32).toUInt32 &&& Int32.toUInt32 31)).toInt32)), (1, .int (((Int32.ofInt 1) + Int32.ofInt 16) + Int32.ofInt 8))] [] SHF _
        refine AW.iload_n (dq rfl) rfl ?_
        show AW l (pI pg 107) P kc ks 50 _ _ SHF _
        refine AW.bipush (dq rfl) ?_
        show AW l (pI pg 107) P kc ks 52 _ _ SHF _
        refine AW.icmp_le (dq rfl) (tgt := 62) (by decide) (fun h26 => ?_) (fun h26 => ?_)
        · have _ := h26
          refine AW.iload_n (dq rfl) rfl ?_
          show AW l (pI pg 107) P kc ks 63 _ _ SHF _
          refine AW.iconst (dq rfl) ?_
          show AW l (pI pg 107) P kc ks 64 _ _ SHF _
          refine AW.icmp_le (dq rfl) (tgt := 74) (by decide) (fun h27 => ?_) (fun h27 => ?_)
          · have _ := h27
            refine AW.iload_n (dq rfl) rfl ?_
            show AW l (pI pg 107) P kc ks 75 _ _ SHF _
            refine AW.iload_n (dq rfl) rfl ?_
            show AW l (pI pg 107) P kc ks 76 _ _ SHF _
            refine AW.iconst (dq rfl) ?_
            show AW l (pI pg 107) P kc ks 77 _ _ SHF _
            refine AW.iushr (dq rfl) ?_
            show AW l (pI pg 107) P kc ks 78 _ _ SHF _
            refine AW.iadd (dq rfl) ?_
            show AW l (pI pg 107) P kc ks 79 _ _ SHF _
            refine AW.iret (dq rfl) rfl ?_
            exact r28 h1 h2 h18 h26 h27
          · have _ := h27
            refine AW.iinc (dq rfl) rfl (by decide +kernel) ?_
            show AW l (pI pg 107) P kc ks 70 [(1, .int ((((Int32.ofInt 1) + Int32.ofInt 16) + Int32.ofInt 8) + Int32.ofInt 2)), (0, .int (((((((x) ^^^ (Int32.ofInt (-1))) &&& ((x) - (Int32.ofInt 1))).toUInt32 >>> (((Int8.ofInt 16).toInt32).toUInt32 &&& Int32.toUInt32 31)).toInt32).toUInt32 >>> (((Int8.ofInt 8).toInt32).toUInt32 &&& Int32.toUInt32 31)).toInt32))] [] SHF _
            refine AW.iload_n (dq rfl) rfl ?_
            show AW l (pI pg 107) P kc ks 71 _ _ SHF _
            refine AW.iconst (dq rfl) ?_
            show AW l (pI pg 107) P kc ks 72 _ _ SHF _
            refine AW.iushr (dq rfl) ?_
            show AW l (pI pg 107) P kc ks 73 _ _ SHF _
            refine AW.istore_n (dq rfl) (by decide +kernel) ?_
            show AW l (pI pg 107) P kc ks 74 [(0, .int (((((((((x) ^^^ (Int32.ofInt (-1))) &&& ((x) - (Int32.ofInt 1))).toUInt32 >>> (((Int8.ofInt 16).toInt32).toUInt32 &&& Int32.toUInt32 31)).toInt32).toUInt32 >>> (((Int8.ofInt 8).toInt32).toUInt32 &&& Int32.toUInt32 31)).toInt32).toUInt32 >>> ((Int32.ofInt 2).toUInt32 &&& Int32.toUInt32 31)).toInt32)), (1, .int ((((Int32.ofInt 1) + Int32.ofInt 16) + Int32.ofInt 8) + Int32.ofInt 2))] [] SHF _
            refine AW.iload_n (dq rfl) rfl ?_
            show AW l (pI pg 107) P kc ks 75 _ _ SHF _
            refine AW.iload_n (dq rfl) rfl ?_
            show AW l (pI pg 107) P kc ks 76 _ _ SHF _
            refine AW.iconst (dq rfl) ?_
            show AW l (pI pg 107) P kc ks 77 _ _ SHF _
            refine AW.iushr (dq rfl) ?_
            show AW l (pI pg 107) P kc ks 78 _ _ SHF _
            refine AW.iadd (dq rfl) ?_
            show AW l (pI pg 107) P kc ks 79 _ _ SHF _
            refine AW.iret (dq rfl) rfl ?_
            exact r29 h1 h2 h18 h26 h27
        · have _ := h26
          refine AW.iinc (dq rfl) rfl (by decide +kernel) ?_
          show AW l (pI pg 107) P kc ks 58 [(1, .int ((((Int32.ofInt 1) + Int32.ofInt 16) + Int32.ofInt 8) + Int32.ofInt 4)), (0, .int (((((((x) ^^^ (Int32.ofInt (-1))) &&& ((x) - (Int32.ofInt 1))).toUInt32 >>> (((Int8.ofInt 16).toInt32).toUInt32 &&& Int32.toUInt32 31)).toInt32).toUInt32 >>> (((Int8.ofInt 8).toInt32).toUInt32 &&& Int32.toUInt32 31)).toInt32))] [] SHF _
          refine AW.iload_n (dq rfl) rfl ?_
          show AW l (pI pg 107) P kc ks 59 _ _ SHF _
          refine AW.iconst (dq rfl) ?_
          show AW l (pI pg 107) P kc ks 60 _ _ SHF _
          refine AW.iushr (dq rfl) ?_
          show AW l (pI pg 107) P kc ks 61 _ _ SHF _
          refine AW.istore_n (dq rfl) (by decide +kernel) ?_
          show AW l (pI pg 107) P kc ks 62 [(0, .int (((((((((x) ^^^ (Int32.ofInt (-1))) &&& ((x) - (Int32.ofInt 1))).toUInt32 >>> (((Int8.ofInt 16).toInt32).toUInt32 &&& Int32.toUInt32 31)).toInt32).toUInt32 >>> (((Int8.ofInt 8).toInt32).toUInt32 &&& Int32.toUInt32 31)).toInt32).toUInt32 >>> ((Int32.ofInt 4).toUInt32 &&& Int32.toUInt32 31)).toInt32)), (1, .int ((((Int32.ofInt 1) + Int32.ofInt 16) + Int32.ofInt 8) + Int32.ofInt 4))] [] SHF _
          refine AW.iload_n (dq rfl) rfl ?_
          show AW l (pI pg 107) P kc ks 63 _ _ SHF _
          refine AW.iconst (dq rfl) ?_
          show AW l (pI pg 107) P kc ks 64 _ _ SHF _
          refine AW.icmp_le (dq rfl) (tgt := 74) (by decide) (fun h30 => ?_) (fun h30 => ?_)
          · have _ := h30
            refine AW.iload_n (dq rfl) rfl ?_
            show AW l (pI pg 107) P kc ks 75 _ _ SHF _
            refine AW.iload_n (dq rfl) rfl ?_
            show AW l (pI pg 107) P kc ks 76 _ _ SHF _
            refine AW.iconst (dq rfl) ?_
            show AW l (pI pg 107) P kc ks 77 _ _ SHF _
            refine AW.iushr (dq rfl) ?_
            show AW l (pI pg 107) P kc ks 78 _ _ SHF _
            refine AW.iadd (dq rfl) ?_
            show AW l (pI pg 107) P kc ks 79 _ _ SHF _
            refine AW.iret (dq rfl) rfl ?_
            exact r31 h1 h2 h18 h26 h30
          · have _ := h30
            refine AW.iinc (dq rfl) rfl (by decide +kernel) ?_
            show AW l (pI pg 107) P kc ks 70 [(1, .int (((((Int32.ofInt 1) + Int32.ofInt 16) + Int32.ofInt 8) + Int32.ofInt 4) + Int32.ofInt 2)), (0, .int (((((((((x) ^^^ (Int32.ofInt (-1))) &&& ((x) - (Int32.ofInt 1))).toUInt32 >>> (((Int8.ofInt 16).toInt32).toUInt32 &&& Int32.toUInt32 31)).toInt32).toUInt32 >>> (((Int8.ofInt 8).toInt32).toUInt32 &&& Int32.toUInt32 31)).toInt32).toUInt32 >>> ((Int32.ofInt 4).toUInt32 &&& Int32.toUInt32 31)).toInt32))] [] SHF _
            refine AW.iload_n (dq rfl) rfl ?_
            show AW l (pI pg 107) P kc ks 71 _ _ SHF _
            refine AW.iconst (dq rfl) ?_
            show AW l (pI pg 107) P kc ks 72 _ _ SHF _
            refine AW.iushr (dq rfl) ?_
            show AW l (pI pg 107) P kc ks 73 _ _ SHF _
            refine AW.istore_n (dq rfl) (by decide +kernel) ?_
            show AW l (pI pg 107) P kc ks 74 [(0, .int (((((((((((x) ^^^ (Int32.ofInt (-1))) &&& ((x) - (Int32.ofInt 1))).toUInt32 >>> (((Int8.ofInt 16).toInt32).toUInt32 &&& Int32.toUInt32 31)).toInt32).toUInt32 >>> (((Int8.ofInt 8).toInt32).toUInt32 &&& Int32.toUInt32 31)).toInt32).toUInt32 >>> ((Int32.ofInt 4).toUInt32 &&& Int32.toUInt32 31)).toInt32).toUInt32 >>> ((Int32.ofInt 2).toUInt32 &&& Int32.toUInt32 31)).toInt32)), (1, .int (((((Int32.ofInt 1) + Int32.ofInt 16) + Int32.ofInt 8) + Int32.ofInt 4) + Int32.ofInt 2))] [] SHF _
            refine AW.iload_n (dq rfl) rfl ?_
            show AW l (pI pg 107) P kc ks 75 _ _ SHF _
            refine AW.iload_n (dq rfl) rfl ?_
            show AW l (pI pg 107) P kc ks 76 _ _ SHF _
            refine AW.iconst (dq rfl) ?_
            show AW l (pI pg 107) P kc ks 77 _ _ SHF _
            refine AW.iushr (dq rfl) ?_
            show AW l (pI pg 107) P kc ks 78 _ _ SHF _
            refine AW.iadd (dq rfl) ?_
            show AW l (pI pg 107) P kc ks 79 _ _ SHF _
            refine AW.iret (dq rfl) rfl ?_
            exact r32 h1 h2 h18 h26 h30
  · have _ := h1
    refine AW.iload_n (dq rfl) rfl ?_
    show AW l (pI pg 107) P kc ks 13 _ _ SHF _
    refine AW.bipush (dq rfl) ?_
    show AW l (pI pg 107) P kc ks 15 _ _ SHF _
    refine AW.iand (dq rfl) ?_
    show AW l (pI pg 107) P kc ks 16 _ _ SHF _
    refine AW.iret (dq rfl) rfl ?_
    exact r33 h1

theorem dri_0 {l : aL} {P : aP} {kc ks : Nat} {x y : Int32} {M : aM}  (hl0 : l.1.stackTraces = false) (Q1 : Int32 → aM → Prop) (c2 : AC l (pI pg 104) (fcI M Q1) 0 0 [.int (y)] SHF M) (r4 : ∀ (y1 : Int32), ∀ (M1 : aM), ∀ (e1 : M1.2.2 = M.2.2), ∀ (q1 : Q1 y1 M1), ∀ (h3 : ¬ (((x) >>> ((y1) &&& 31)) &&& ((Int8.ofInt 7).toInt32) : Int32) = 0), P (.inl (some (.int (((Int8.ofInt 7).toInt32) - (((x) >>> ((y1) &&& 31)) &&& ((Int8.ofInt 7).toInt32)))))) SHF M1) (r5 : ∀ (y1 : Int32), ∀ (M1 : aM), ∀ (e1 : M1.2.2 = M.2.2), ∀ (q1 : Q1 y1 M1), ∀ (h3 : (((x) >>> ((y1) &&& 31)) &&& ((Int8.ofInt 7).toInt32) : Int32) = 0), P (.inl (some (.int (Int32.ofInt (-1))))) SHF M1) : AW l (pI pg 112) P kc ks 0 [(0, .int (x)), (1, .int (y))] [] SHF M := by
  refine AW.iload_n (dq rfl) rfl ?_
  show AW l (pI pg 112) P kc ks 1 _ _ SHF _
  refine AW.iload_n (dq rfl) rfl ?_
  show AW l (pI pg 112) P kc ks 2 _ _ SHF _
  refine fw_callSI (as := [.int (y)]) (dq rfl) (pg_ok.2.2.1 112 _ _ _ _ rfl) (by decide +kernel) rfl rfl (c2) (fun y1 M1 e1 q1 => ?_)
  show AW l (pI pg 112) P kc ks 5 [(0, .int (x)), (1, .int (y))] [.int (y1), .int (x)] SHF _
  refine AW.ishr (dq rfl) ?_
  show AW l (pI pg 112) P kc ks 6 _ _ SHF _
  refine AW.bipush (dq rfl) ?_
  show AW l (pI pg 112) P kc ks 8 _ _ SHF _
  refine AW.iand (dq rfl) ?_
  show AW l (pI pg 112) P kc ks 9 _ _ SHF _
  refine AW.istore_n (dq rfl) (by decide +kernel) ?_
  show AW l (pI pg 112) P kc ks 10 [(2, .int (((x) >>> ((y1) &&& 31)) &&& ((Int8.ofInt 7).toInt32))), (0, .int (x)), (1, .int (y))] [] SHF _
  refine AW.iload_n (dq rfl) rfl ?_
  show AW l (pI pg 112) P kc ks 11 _ _ SHF _
  refine AW.if_ne (dq rfl) (tgt := 18) (by decide) (fun h3 => ?_) (fun h3 => ?_)
  · have _ := h3
    refine AW.bipush (dq rfl) ?_
    show AW l (pI pg 112) P kc ks 20 _ _ SHF _
    refine AW.iload_n (dq rfl) rfl ?_
    show AW l (pI pg 112) P kc ks 21 _ _ SHF _
    refine AW.isub (dq rfl) ?_
    show AW l (pI pg 112) P kc ks 22 _ _ SHF _
    refine AW.iret (dq rfl) rfl ?_
    exact r4 y1 M1 e1 q1 h3
  · have _ := h3
    refine AW.iconst (dq rfl) ?_
    show AW l (pI pg 112) P kc ks 15 _ _ SHF _
    refine AW.goto (dq rfl) (tgt := 22) (by decide) ?_
    refine AW.iret (dq rfl) rfl ?_
    exact r5 y1 M1 e1 q1 h3

theorem clr_0 {l : aL} {P : aP} {kc ks : Nat} {M : aM} (hJ : ∀ e ∈ RWk, M.2.2 e.1 e.2.1 = e.2.2) (hl0 : l.1.stackTraces = false) (Q1 : aM → Prop) (c2 : AC l (pI pg 17) (fcV M Q1) 0 0 [.ref 37, .long ((-1))] SHF M) (o3 : ∀ (M1 : aM), ∀ (e1 : M1.2.2 = M.2.2), ∀ (q1 : Q1 M1), vp_in (Int32.ofInt 0) 256) (r4 : ∀ (M1 : aM), ∀ (e1 : M1.2.2 = M.2.2), ∀ (q1 : Q1 M1), P (.inl none) SHF (aset (aset M1 37 (Int32.ofInt 0).toNatClampNeg (.long (Int64.ofNat (0 : Fin 2)))) 36 3 (.int (Int32.ofInt 0)))) : AW l (pI pg 102) P kc ks 0 [(0, .ref 36)] [] SHF M := by
  refine AW.aload_n (dq rfl) rfl rfl ?_
  show AW l (pI pg 102) P kc ks 1 _ _ SHF _
  refine fw_get (dq rfl) (pg_ok.2.1 102 _ _ _ _ rfl) rfl (v := .ref 37) (isTA_ok rfl (rgR_ok hJ rfl)) ?_
  show AW l (pI pg 102) P kc ks 4 _ _ SHF _
  refine AW.ldc2 (dq rfl) (pg_ok.2.2.2.2.2.1 102 _ (-1) rfl) ?_
  show AW l (pI pg 102) P kc ks 7 _ _ SHF _
  refine fw_callSV (as := [.ref 37, .long ((-1))]) (dq rfl) (pg_ok.2.2.1 102 _ _ _ _ rfl) (by decide +kernel) rfl rfl (c2) (fun M1 e1 q1 => ?_)
  have hJ1 : ∀ e ∈ RWk, M1.2.2 e.1 e.2.1 = e.2.2 := fun e he => by rw [e1]; exact hJ e he
  show AW l (pI pg 102) P kc ks 10 [(0, .ref 36)] [] SHF _
  refine AW.aload_n (dq rfl) rfl rfl ?_
  show AW l (pI pg 102) P kc ks 11 _ _ SHF _
  refine fw_get (dq rfl) (pg_ok.2.1 102 _ _ _ _ rfl) rfl (v := .ref 37) (isTA_ok rfl (rgR_ok hJ1 rfl)) ?_
  show AW l (pI pg 102) P kc ks 14 _ _ SHF _
  refine AW.iconst (dq rfl) ?_
  show AW l (pI pg 102) P kc ks 15 _ _ SHF _
  refine AW.lconst (dq rfl) ?_
  show AW l (pI pg 102) P kc ks 16 _ _ SHF _
  refine AW.last (by decide) (dq rfl) rfl (o3 M1 e1 q1) ?_
  show AW l (pI pg 102) P kc ks 17 _ _ SHF _
  refine AW.aload_n (dq rfl) rfl rfl ?_
  show AW l (pI pg 102) P kc ks 18 _ _ SHF _
  refine AW.iconst (dq rfl) ?_
  show AW l (pI pg 102) P kc ks 19 _ _ SHF _
  refine fw_putI (dq rfl) (pg_ok.2.1 102 _ _ _ _ rfl) rfl rfl rfl ?_
  show AW l (pI pg 102) P kc ks 22 _ _ SHF _
  refine AW.vret (dq rfl) rfl ?_
  exact r4 M1 e1 q1

theorem row_0 {l : aL} {P : aP} {kc ks : Nat} {x y : Int32} {M : aM} (hJ : ∀ e ∈ RWk, M.2.2 e.1 e.2.1 = e.2.2) (hl0 : l.1.stackTraces = false) (o1 : vp_in (Int32.ofInt 0) 256) (k2 : AW l (pI pg 106) P kc ks 10 [(4, .int (Int32.ofInt 1)), (3, .int (y)), (2, .int (x)), (1, .ref 30), (0, .ref 36)] [] SHF (aset M 38 (Int32.ofInt 0).toNatClampNeg (.long (Int64.ofNat (0 : Fin 2))))) : AW l (pI pg 106) P kc ks 0 [(0, .ref 36), (1, .ref 30), (2, .int (x)), (3, .int (y))] [] SHF M := by
  refine AW.aload_n (dq rfl) rfl rfl ?_
  show AW l (pI pg 106) P kc ks 1 _ _ SHF _
  refine fw_get (dq rfl) (pg_ok.2.1 106 _ _ _ _ rfl) rfl (v := .ref 38) (isTA_ok rfl (rgR_ok hJ rfl)) ?_
  show AW l (pI pg 106) P kc ks 4 _ _ SHF _
  refine AW.iconst (dq rfl) ?_
  show AW l (pI pg 106) P kc ks 5 _ _ SHF _
  refine AW.lconst (dq rfl) ?_
  show AW l (pI pg 106) P kc ks 6 _ _ SHF _
  refine AW.last (by decide) (dq rfl) rfl (o1) ?_
  show AW l (pI pg 106) P kc ks 7 _ _ SHF _
  refine AW.iconst (dq rfl) ?_
  show AW l (pI pg 106) P kc ks 8 _ _ SHF _
  refine AW.istore (dq rfl) (by decide +kernel) ?_
  show AW l (pI pg 106) P kc ks 10 [(4, .int (Int32.ofInt 1)), (0, .ref 36), (1, .ref 30), (2, .int (x)), (3, .int (y))] [] SHF _
  refine AW.drop (lv' := [(4, .int (Int32.ofInt 1)), (3, .int (y)), (2, .int (x)), (1, .ref 30), (0, .ref 36)]) (List.forall_mem_cons.mpr ⟨List.mem_of_getElem? (i := 0) rfl, List.forall_mem_cons.mpr ⟨List.mem_of_getElem? (i := 4) rfl, List.forall_mem_cons.mpr ⟨List.mem_of_getElem? (i := 3) rfl, List.forall_mem_cons.mpr ⟨List.mem_of_getElem? (i := 2) rfl, List.forall_mem_cons.mpr ⟨List.mem_of_getElem? (i := 1) rfl, fun _ h => absurd h List.not_mem_nil⟩⟩⟩⟩⟩) ?_
  exact k2

theorem row_10 {l : aL} {P : aP} {kc ks : Nat} {n : Nat} {x y : Int32} {M : aM} (hJ : ∀ e ∈ RWk, M.2.2 e.1 e.2.1 = e.2.2) (hl0 : l.1.stackTraces = false) (r2 : ∀ (h1 : (x : Int32) < (nI n : Int32)), P (.inl none) SHF M) (k4 : ∀ (h1 : ¬ ((x : Int32) < (nI n : Int32))), ∀ (h3 : ¬ ((nI n) &&& ((x) ^^^ (Int32.ofInt (-1))) : Int32) = 0), AW l (pI pg 106) P kc ks 10 [(4, .int ((nI n) + Int32.ofInt 1)), (3, .int (y)), (2, .int (x)), (1, .ref 30), (0, .ref 36)] [] SHF M) (Q5 : Int32 → aM → Prop) (c6 : ∀ (h1 : ¬ ((x : Int32) < (nI n : Int32))), ∀ (h3 : ((nI n) &&& ((x) ^^^ (Int32.ofInt (-1))) : Int32) = 0), AC l (pI pg 107) (fcI M Q5) 0 0 [.int (nI n)] SHF M) (o7 : ∀ (h1 : ¬ ((x : Int32) < (nI n : Int32))), ∀ (h3 : ((nI n) &&& ((x) ^^^ (Int32.ofInt (-1))) : Int32) = 0), ∀ (y5 : Int32), ∀ (M5 : aM), ∀ (e5 : M5.2.2 = M.2.2), ∀ (q5 : Q5 y5 M5), vp_in (y5) 8) (o8 : ∀ (h1 : ¬ ((x : Int32) < (nI n : Int32))), ∀ (h3 : ((nI n) &&& ((x) ^^^ (Int32.ofInt (-1))) : Int32) = 0), ∀ (y5 : Int32), ∀ (M5 : aM), ∀ (e5 : M5.2.2 = M.2.2), ∀ (q5 : Q5 y5 M5), vp_in (nI n) 256) (k10 : ∀ (h1 : ¬ ((x : Int32) < (nI n : Int32))), ∀ (h3 : ((nI n) &&& ((x) ^^^ (Int32.ofInt (-1))) : Int32) = 0), ∀ (y5 : Int32), ∀ (M5 : aM), ∀ (e5 : M5.2.2 = M.2.2), ∀ (q5 : Q5 y5 M5), ∀ (h9 : (y : Int32) < (M5.1 31 (nI n).toNatClampNeg : Int32)), AW l (pI pg 106) P kc ks 10 [(4, .int ((nI n) + Int32.ofInt 1)), (3, .int (y)), (2, .int (x)), (1, .ref 30), (0, .ref 36)] [] SHF (aset M5 38 (nI n).toNatClampNeg (.long ((-1))))) (o11 : ∀ (h1 : ¬ ((x : Int32) < (nI n : Int32))), ∀ (h3 : ((nI n) &&& ((x) ^^^ (Int32.ofInt (-1))) : Int32) = 0), ∀ (y5 : Int32), ∀ (M5 : aM), ∀ (e5 : M5.2.2 = M.2.2), ∀ (q5 : Q5 y5 M5), ∀ (h9 : ¬ ((y : Int32) < (M5.1 31 (nI n).toNatClampNeg : Int32))), vp_in ((nI n) &&& ((nI n) - (Int32.ofInt 1))) 256) (k12 : ∀ (h1 : ¬ ((x : Int32) < (nI n : Int32))), ∀ (h3 : ((nI n) &&& ((x) ^^^ (Int32.ofInt (-1))) : Int32) = 0), ∀ (y5 : Int32), ∀ (M5 : aM), ∀ (e5 : M5.2.2 = M.2.2), ∀ (q5 : Q5 y5 M5), ∀ (h9 : ¬ ((y : Int32) < (M5.1 31 (nI n).toNatClampNeg : Int32))), AW l (pI pg 106) P kc ks 10 [(4, .int ((nI n) + Int32.ofInt 1)), (3, .int (y)), (2, .int (x)), (1, .ref 30), (0, .ref 36)] [] SHF (aset M5 38 (nI n).toNatClampNeg (.long ((M5.2.1 38 ((nI n) &&& ((nI n) - (Int32.ofInt 1))).toNatClampNeg) + (M5.2.1 39 (y5).toNatClampNeg))))) : AW l (pI pg 106) P kc ks 10 [(4, .int (nI n)), (3, .int (y)), (2, .int (x)), (1, .ref 30), (0, .ref 36)] [] SHF M := by
  refine AW.iload (dq rfl) rfl ?_
  show AW l (pI pg 106) P kc ks 12 _ _ SHF _
  refine AW.iload_n (dq rfl) rfl ?_
  show AW l (pI pg 106) P kc ks 13 _ _ SHF _
  refine AW.icmp_gt (dq rfl) (tgt := 82) (by decide) (fun h1 => ?_) (fun h1 => ?_)
  · have _ := h1
    refine AW.vret (dq rfl) rfl ?_
    exact r2 h1
  · have _ := h1
    refine AW.iload (dq rfl) rfl ?_
    show AW l (pI pg 106) P kc ks 18 _ _ SHF _
    refine AW.iload_n (dq rfl) rfl ?_
    show AW l (pI pg 106) P kc ks 19 _ _ SHF _
    refine AW.iconst (dq rfl) ?_
    show AW l (pI pg 106) P kc ks 20 _ _ SHF _
    refine AW.ixor (dq rfl) ?_
    show AW l (pI pg 106) P kc ks 21 _ _ SHF _
    refine AW.iand (dq rfl) ?_
    show AW l (pI pg 106) P kc ks 22 _ _ SHF _
    refine AW.if_ne (dq rfl) (tgt := 76) (by decide) (fun h3 => ?_) (fun h3 => ?_)
    · have _ := h3
      refine AW.iinc (dq rfl) rfl (by decide +kernel) ?_
      show AW l (pI pg 106) P kc ks 79 [(4, .int ((nI n) + Int32.ofInt 1)), (3, .int (y)), (2, .int (x)), (1, .ref 30), (0, .ref 36)] [] SHF _
      refine AW.goto (dq rfl) (tgt := 10) (by decide) ?_
      refine AW.drop (lv' := [(4, .int ((nI n) + Int32.ofInt 1)), (3, .int (y)), (2, .int (x)), (1, .ref 30), (0, .ref 36)]) (List.forall_mem_cons.mpr ⟨List.mem_of_getElem? (i := 0) rfl, List.forall_mem_cons.mpr ⟨List.mem_of_getElem? (i := 1) rfl, List.forall_mem_cons.mpr ⟨List.mem_of_getElem? (i := 2) rfl, List.forall_mem_cons.mpr ⟨List.mem_of_getElem? (i := 3) rfl, List.forall_mem_cons.mpr ⟨List.mem_of_getElem? (i := 4) rfl, fun _ h => absurd h List.not_mem_nil⟩⟩⟩⟩⟩) ?_
      exact k4 h1 h3
    · have _ := h3
      refine AW.aload_n (dq rfl) rfl rfl ?_
      show AW l (pI pg 106) P kc ks 26 _ _ SHF _
      refine fw_get (dq rfl) (pg_ok.2.1 106 _ _ _ _ rfl) rfl (v := .ref 39) (isTA_ok rfl (rgR_ok hJ rfl)) ?_
      show AW l (pI pg 106) P kc ks 29 _ _ SHF _
      refine AW.iload (dq rfl) rfl ?_
      show AW l (pI pg 106) P kc ks 31 _ _ SHF _
      refine fw_callSI (as := [.int (nI n)]) (dq rfl) (pg_ok.2.2.1 106 _ _ _ _ rfl) (by decide +kernel) rfl rfl (c6 h1 h3) (fun y5 M5 e5 q5 => ?_)
      have hJ5 : ∀ e ∈ RWk, M5.2.2 e.1 e.2.1 = e.2.2 := fun e he => by rw [e5]; exact hJ e he
      show AW l (pI pg 106) P kc ks 34 [(4, .int (nI n)), (3, .int (y)), (2, .int (x)), (1, .ref 30), (0, .ref 36)] [.int (y5), .ref 39] SHF _
      refine AW.lald (by decide) (dq rfl) rfl (o7 h1 h3 y5 M5 e5 q5) ?_
      show AW l (pI pg 106) P kc ks 35 _ _ SHF _
      refine AW.lstore (dq rfl) (by decide +kernel) ?_
      show AW l (pI pg 106) P kc ks 37 [(5, .long (M5.2.1 39 (y5).toNatClampNeg)), (4, .int (nI n)), (3, .int (y)), (2, .int (x)), (1, .ref 30), (0, .ref 36)] [] SHF _
      refine AW.aload_n (dq rfl) rfl rfl ?_
      show AW l (pI pg 106) P kc ks 38 _ _ SHF _
      refine fw_get (dq rfl) (pg_ok.2.1 106 _ _ _ _ rfl) rfl (v := .ref 38) (isTA_ok rfl (rgR_ok hJ5 rfl)) ?_
      show AW l (pI pg 106) P kc ks 41 _ _ SHF _
      refine AW.iload (dq rfl) rfl ?_
      show AW l (pI pg 106) P kc ks 43 _ _ SHF _
      refine AW.aload_n (dq rfl) rfl rfl ?_
      show AW l (pI pg 106) P kc ks 44 _ _ SHF _
      refine fw_get (dq rfl) (pg_ok.2.1 106 _ _ _ _ rfl) rfl (v := .ref 31) (isTA_ok rfl (rgR_ok hJ5 rfl)) ?_
      show AW l (pI pg 106) P kc ks 47 _ _ SHF _
      refine AW.iload (dq rfl) rfl ?_
      show AW l (pI pg 106) P kc ks 49 _ _ SHF _
      refine AW.iald (dq rfl) rfl (o8 h1 h3 y5 M5 e5 q5) ?_
      show AW l (pI pg 106) P kc ks 50 _ _ SHF _
      refine AW.iload_n (dq rfl) rfl ?_
      show AW l (pI pg 106) P kc ks 51 _ _ SHF _
      refine AW.icmp_gt (dq rfl) (tgt := 72) (by decide) (fun h9 => ?_) (fun h9 => ?_)
      · have _ := h9
        refine AW.ldc2 (dq rfl) (pg_ok.2.2.2.2.2.1 106 _ (-1) rfl) ?_
        show AW l (pI pg 106) P kc ks 75 _ _ SHF _
        refine AW.last (by decide) (dq rfl) rfl (o8 h1 h3 y5 M5 e5 q5) ?_
        show AW l (pI pg 106) P kc ks 76 _ _ SHF _
        refine AW.iinc (dq rfl) rfl (by decide +kernel) ?_
        show AW l (pI pg 106) P kc ks 79 [(4, .int ((nI n) + Int32.ofInt 1)), (5, .long (M5.2.1 39 (y5).toNatClampNeg)), (3, .int (y)), (2, .int (x)), (1, .ref 30), (0, .ref 36)] [] SHF _
        refine AW.goto (dq rfl) (tgt := 10) (by decide) ?_
        refine AW.drop (lv' := [(4, .int ((nI n) + Int32.ofInt 1)), (3, .int (y)), (2, .int (x)), (1, .ref 30), (0, .ref 36)]) (List.forall_mem_cons.mpr ⟨List.mem_of_getElem? (i := 0) rfl, List.forall_mem_cons.mpr ⟨List.mem_of_getElem? (i := 2) rfl, List.forall_mem_cons.mpr ⟨List.mem_of_getElem? (i := 3) rfl, List.forall_mem_cons.mpr ⟨List.mem_of_getElem? (i := 4) rfl, List.forall_mem_cons.mpr ⟨List.mem_of_getElem? (i := 5) rfl, fun _ h => absurd h List.not_mem_nil⟩⟩⟩⟩⟩) ?_
        exact k10 h1 h3 y5 M5 e5 q5 h9
      · have _ := h9
        refine AW.aload_n (dq rfl) rfl rfl ?_
        show AW l (pI pg 106) P kc ks 55 _ _ SHF _
        refine fw_get (dq rfl) (pg_ok.2.1 106 _ _ _ _ rfl) rfl (v := .ref 38) (isTA_ok rfl (rgR_ok hJ5 rfl)) ?_
        show AW l (pI pg 106) P kc ks 58 _ _ SHF _
        refine AW.iload (dq rfl) rfl ?_
        show AW l (pI pg 106) P kc ks 60 _ _ SHF _
        refine AW.iload (dq rfl) rfl ?_
        show AW l (pI pg 106) P kc ks 62 _ _ SHF _
        refine AW.iconst (dq rfl) ?_
        show AW l (pI pg 106) P kc ks 63 _ _ SHF _
        refine AW.isub (dq rfl) ?_
        show AW l (pI pg 106) P kc ks 64 _ _ SHF _
        refine AW.iand (dq rfl) ?_
        show AW l (pI pg 106) P kc ks 65 _ _ SHF _
        refine AW.lald (by decide) (dq rfl) rfl (o11 h1 h3 y5 M5 e5 q5 h9) ?_
        show AW l (pI pg 106) P kc ks 66 _ _ SHF _
        refine AW.lload (dq rfl) rfl ?_
        show AW l (pI pg 106) P kc ks 68 _ _ SHF _
        refine AW.ladd (dq rfl) ?_
        show AW l (pI pg 106) P kc ks 69 _ _ SHF _
        refine AW.goto (dq rfl) (tgt := 75) (by decide) ?_
        refine AW.last (by decide) (dq rfl) rfl (o8 h1 h3 y5 M5 e5 q5) ?_
        show AW l (pI pg 106) P kc ks 76 _ _ SHF _
        refine AW.iinc (dq rfl) rfl (by decide +kernel) ?_
        show AW l (pI pg 106) P kc ks 79 [(4, .int ((nI n) + Int32.ofInt 1)), (5, .long (M5.2.1 39 (y5).toNatClampNeg)), (3, .int (y)), (2, .int (x)), (1, .ref 30), (0, .ref 36)] [] SHF _
        refine AW.goto (dq rfl) (tgt := 10) (by decide) ?_
        refine AW.drop (lv' := [(4, .int ((nI n) + Int32.ofInt 1)), (3, .int (y)), (2, .int (x)), (1, .ref 30), (0, .ref 36)]) (List.forall_mem_cons.mpr ⟨List.mem_of_getElem? (i := 0) rfl, List.forall_mem_cons.mpr ⟨List.mem_of_getElem? (i := 2) rfl, List.forall_mem_cons.mpr ⟨List.mem_of_getElem? (i := 3) rfl, List.forall_mem_cons.mpr ⟨List.mem_of_getElem? (i := 4) rfl, List.forall_mem_cons.mpr ⟨List.mem_of_getElem? (i := 5) rfl, fun _ h => absurd h List.not_mem_nil⟩⟩⟩⟩⟩) ?_
        exact k12 h1 h3 y5 M5 e5 q5 h9

theorem adp_0 {l : aL} {P : aP} {kc ks : Nat} {x y : Int32} {M : aM} (hJ : ∀ e ∈ RWk, M.2.2 e.1 e.2.1 = e.2.2) (hl0 : l.1.stackTraces = false) (Q1 : aM → Prop) (c2 : AC l (pI pg 106) (fcV M Q1) 0 0 [.ref 36, .ref 30, .int (x), .int (y)] SHF M) (k3 : ∀ (M1 : aM), ∀ (e1 : M1.2.2 = M.2.2), ∀ (q1 : Q1 M1), AW l (pI pg 105) P kc ks 23 [(4, .int ((aset M1 36 3 (.int ((M1.1 36 3) ||| (x)))).1 36 3)), (3, .int (y)), (2, .int (x)), (1, .ref 30), (0, .ref 36)] [] SHF (aset M1 36 3 (.int ((M1.1 36 3) ||| (x))))) : AW l (pI pg 105) P kc ks 0 [(0, .ref 36), (1, .ref 30), (2, .int (x)), (3, .int (y))] [] SHF M := by
  refine AW.aload_n (dq rfl) rfl rfl ?_
  show AW l (pI pg 105) P kc ks 1 _ _ SHF _
  refine AW.aload_n (dq rfl) rfl rfl ?_
  show AW l (pI pg 105) P kc ks 2 _ _ SHF _
  refine AW.iload_n (dq rfl) rfl ?_
  show AW l (pI pg 105) P kc ks 3 _ _ SHF _
  refine AW.iload_n (dq rfl) rfl ?_
  show AW l (pI pg 105) P kc ks 4 _ _ SHF _
  refine fw_callVV (as := [.ref 30, .int (x), .int (y)]) (dq rfl) (pg_ok.2.2.1 105 _ _ _ _ rfl) rfl (by decide +kernel) rfl rfl (c2) (fun M1 e1 q1 => ?_)
  have hJ1 : ∀ e ∈ RWk, M1.2.2 e.1 e.2.1 = e.2.2 := fun e he => by rw [e1]; exact hJ e he
  show AW l (pI pg 105) P kc ks 7 [(0, .ref 36), (1, .ref 30), (2, .int (x)), (3, .int (y))] [] SHF _
  refine AW.aload_n (dq rfl) rfl rfl ?_
  show AW l (pI pg 105) P kc ks 8 _ _ SHF _
  refine AW.dup (dq rfl) rfl ?_
  show AW l (pI pg 105) P kc ks 9 _ _ SHF _
  refine fw_get (dq rfl) (pg_ok.2.1 105 _ _ _ _ rfl) rfl (v := .int (M1.1 36 3)) rfl ?_
  show AW l (pI pg 105) P kc ks 12 _ _ SHF _
  refine AW.iload_n (dq rfl) rfl ?_
  show AW l (pI pg 105) P kc ks 13 _ _ SHF _
  refine AW.ior (dq rfl) ?_
  show AW l (pI pg 105) P kc ks 14 _ _ SHF _
  refine fw_putI (dq rfl) (pg_ok.2.1 105 _ _ _ _ rfl) rfl rfl rfl ?_
  show AW l (pI pg 105) P kc ks 17 _ _ SHF _
  refine AW.aload_n (dq rfl) rfl rfl ?_
  show AW l (pI pg 105) P kc ks 18 _ _ SHF _
  refine fw_get (dq rfl) (pg_ok.2.1 105 _ _ _ _ rfl) rfl (v := .int ((aset M1 36 3 (.int ((M1.1 36 3) ||| (x)))).1 36 3)) rfl ?_
  show AW l (pI pg 105) P kc ks 21 _ _ SHF _
  refine AW.istore (dq rfl) (by decide +kernel) ?_
  show AW l (pI pg 105) P kc ks 23 [(4, .int ((aset M1 36 3 (.int ((M1.1 36 3) ||| (x)))).1 36 3)), (0, .ref 36), (1, .ref 30), (2, .int (x)), (3, .int (y))] [] SHF _
  refine AW.drop (lv' := [(4, .int ((aset M1 36 3 (.int ((M1.1 36 3) ||| (x)))).1 36 3)), (3, .int (y)), (2, .int (x)), (1, .ref 30), (0, .ref 36)]) (List.forall_mem_cons.mpr ⟨List.mem_of_getElem? (i := 0) rfl, List.forall_mem_cons.mpr ⟨List.mem_of_getElem? (i := 4) rfl, List.forall_mem_cons.mpr ⟨List.mem_of_getElem? (i := 3) rfl, List.forall_mem_cons.mpr ⟨List.mem_of_getElem? (i := 2) rfl, List.forall_mem_cons.mpr ⟨List.mem_of_getElem? (i := 1) rfl, fun _ h => absurd h List.not_mem_nil⟩⟩⟩⟩⟩) ?_
  exact k3 M1 e1 q1

theorem adp_23 {l : aL} {P : aP} {kc ks : Nat} {t : Nat} {x y : Int32} {M : aM} (hJ : ∀ e ∈ RWk, M.2.2 e.1 e.2.1 = e.2.2) (hl0 : l.1.stackTraces = false) (r2 : ∀ (h1 : (nI t : Int32) ≤ 0), P (.inl none) SHF M) (o3 : ∀ (h1 : ¬ ((nI t : Int32) ≤ 0)), vp_in (nI t) 256) (k4 : ∀ (h1 : ¬ ((nI t : Int32) ≤ 0)), AW l (pI pg 105) P kc ks 47 [(8, .int ((nI t) &&& (x))), (6, .long (M.2.1 37 (nI t).toNatClampNeg)), (5, .int ((nI t) &&& (x))), (4, .int (nI t)), (3, .int (y)), (2, .int (x)), (1, .ref 30), (0, .ref 36)] [] SHF M) : AW l (pI pg 105) P kc ks 23 [(4, .int (nI t)), (3, .int (y)), (2, .int (x)), (1, .ref 30), (0, .ref 36)] [] SHF M := by
  refine AW.iload (dq rfl) rfl ?_
  show AW l (pI pg 105) P kc ks 25 _ _ SHF _
  refine AW.if_le (dq rfl) (tgt := 150) (by decide) (fun h1 => ?_) (fun h1 => ?_)
  · have _ := h1
    refine AW.vret (dq rfl) rfl ?_
    exact r2 h1
  · have _ := h1
    refine AW.iload (dq rfl) rfl ?_
    show AW l (pI pg 105) P kc ks 30 _ _ SHF _
    refine AW.iload_n (dq rfl) rfl ?_
    show AW l (pI pg 105) P kc ks 31 _ _ SHF _
    refine AW.iand (dq rfl) ?_
    show AW l (pI pg 105) P kc ks 32 _ _ SHF _
    refine AW.istore (dq rfl) (by decide +kernel) ?_
    show AW l (pI pg 105) P kc ks 34 [(5, .int ((nI t) &&& (x))), (4, .int (nI t)), (3, .int (y)), (2, .int (x)), (1, .ref 30), (0, .ref 36)] [] SHF _
    refine AW.aload_n (dq rfl) rfl rfl ?_
    show AW l (pI pg 105) P kc ks 35 _ _ SHF _
    refine fw_get (dq rfl) (pg_ok.2.1 105 _ _ _ _ rfl) rfl (v := .ref 37) (isTA_ok rfl (rgR_ok hJ rfl)) ?_
    show AW l (pI pg 105) P kc ks 38 _ _ SHF _
    refine AW.iload (dq rfl) rfl ?_
    show AW l (pI pg 105) P kc ks 40 _ _ SHF _
    refine AW.lald (by decide) (dq rfl) rfl (o3 h1) ?_
    show AW l (pI pg 105) P kc ks 41 _ _ SHF _
    refine AW.lstore (dq rfl) (by decide +kernel) ?_
    show AW l (pI pg 105) P kc ks 43 [(6, .long (M.2.1 37 (nI t).toNatClampNeg)), (5, .int ((nI t) &&& (x))), (4, .int (nI t)), (3, .int (y)), (2, .int (x)), (1, .ref 30), (0, .ref 36)] [] SHF _
    refine AW.iload (dq rfl) rfl ?_
    show AW l (pI pg 105) P kc ks 45 _ _ SHF _
    refine AW.istore (dq rfl) (by decide +kernel) ?_
    show AW l (pI pg 105) P kc ks 47 [(8, .int ((nI t) &&& (x))), (6, .long (M.2.1 37 (nI t).toNatClampNeg)), (5, .int ((nI t) &&& (x))), (4, .int (nI t)), (3, .int (y)), (2, .int (x)), (1, .ref 30), (0, .ref 36)] [] SHF _
    refine AW.drop (lv' := [(8, .int ((nI t) &&& (x))), (6, .long (M.2.1 37 (nI t).toNatClampNeg)), (5, .int ((nI t) &&& (x))), (4, .int (nI t)), (3, .int (y)), (2, .int (x)), (1, .ref 30), (0, .ref 36)]) (List.forall_mem_cons.mpr ⟨List.mem_of_getElem? (i := 0) rfl, List.forall_mem_cons.mpr ⟨List.mem_of_getElem? (i := 1) rfl, List.forall_mem_cons.mpr ⟨List.mem_of_getElem? (i := 2) rfl, List.forall_mem_cons.mpr ⟨List.mem_of_getElem? (i := 3) rfl, List.forall_mem_cons.mpr ⟨List.mem_of_getElem? (i := 4) rfl, List.forall_mem_cons.mpr ⟨List.mem_of_getElem? (i := 5) rfl, List.forall_mem_cons.mpr ⟨List.mem_of_getElem? (i := 6) rfl, List.forall_mem_cons.mpr ⟨List.mem_of_getElem? (i := 7) rfl, fun _ h => absurd h List.not_mem_nil⟩⟩⟩⟩⟩⟩⟩⟩) ?_
    exact k4 h1

theorem adp_47 {l : aL} {P : aP} {kc ks : Nat} {t o a : Nat} {f : Int64} {x y : Int32} {M : aM} (hJ : ∀ e ∈ RWk, M.2.2 e.1 e.2.1 = e.2.2) (hl0 : l.1.stackTraces = false) (o2 : ∀ (h1 : (nI a : Int32) ≤ 0), vp_in (nI t) 256) (k3 : ∀ (h1 : (nI a : Int32) ≤ 0), AW l (pI pg 105) P kc ks 23 [(4, .int (((nI t) - (Int32.ofInt 1)) &&& ((aset M 37 (nI t).toNatClampNeg (.long (f))).1 36 3))), (3, .int (y)), (2, .int (x)), (1, .ref 30), (0, .ref 36)] [] SHF (aset M 37 (nI t).toNatClampNeg (.long (f)))) (o4 : ∀ (h1 : ¬ ((nI a : Int32) ≤ 0)), vp_in ((nI t) ^^^ (nI a)) 256) (o5 : ∀ (h1 : ¬ ((nI a : Int32) ≤ 0)), vp_in (nI a) 256) (k7 : ∀ (h1 : ¬ ((nI a : Int32) ≤ 0)), ∀ (h6 : (lg_cmp (M.2.1 38 (nI a).toNatClampNeg) ((-1)) : Int32) = 0), AW l (pI pg 105) P kc ks 47 [(8, .int (((nI a) - (Int32.ofInt 1)) &&& (nI o))), (6, .long (f)), (5, .int (nI o)), (4, .int (nI t)), (3, .int (y)), (2, .int (x)), (1, .ref 30), (0, .ref 36)] [] SHF M) (k9 : ∀ (h1 : ¬ ((nI a : Int32) ≤ 0)), ∀ (h6 : ¬ ((lg_cmp (M.2.1 38 (nI a).toNatClampNeg) ((-1)) : Int32) = 0)), ∀ (h8 : (lg_cmp (M.2.1 37 ((nI t) ^^^ (nI a)).toNatClampNeg) ((-1)) : Int32) = 0), AW l (pI pg 105) P kc ks 47 [(8, .int (((nI a) - (Int32.ofInt 1)) &&& (nI o))), (6, .long (f)), (5, .int (nI o)), (4, .int (nI t)), (3, .int (y)), (2, .int (x)), (1, .ref 30), (0, .ref 36)] [] SHF M) (k11 : ∀ (h1 : ¬ ((nI a : Int32) ≤ 0)), ∀ (h6 : ¬ ((lg_cmp (M.2.1 38 (nI a).toNatClampNeg) ((-1)) : Int32) = 0)), ∀ (h8 : ¬ ((lg_cmp (M.2.1 37 ((nI t) ^^^ (nI a)).toNatClampNeg) ((-1)) : Int32) = 0)), ∀ (h10 : (lg_cmp ((M.2.1 37 ((nI t) ^^^ (nI a)).toNatClampNeg) + (M.2.1 38 (nI a).toNatClampNeg)) (f) : Int32) ≤ 0), AW l (pI pg 105) P kc ks 47 [(8, .int (((nI a) - (Int32.ofInt 1)) &&& (nI o))), (6, .long (f)), (5, .int (nI o)), (4, .int (nI t)), (3, .int (y)), (2, .int (x)), (1, .ref 30), (0, .ref 36)] [] SHF M) (k12 : ∀ (h1 : ¬ ((nI a : Int32) ≤ 0)), ∀ (h6 : ¬ ((lg_cmp (M.2.1 38 (nI a).toNatClampNeg) ((-1)) : Int32) = 0)), ∀ (h8 : ¬ ((lg_cmp (M.2.1 37 ((nI t) ^^^ (nI a)).toNatClampNeg) ((-1)) : Int32) = 0)), ∀ (h10 : ¬ ((lg_cmp ((M.2.1 37 ((nI t) ^^^ (nI a)).toNatClampNeg) + (M.2.1 38 (nI a).toNatClampNeg)) (f) : Int32) ≤ 0)), AW l (pI pg 105) P kc ks 47 [(8, .int (((nI a) - (Int32.ofInt 1)) &&& (nI o))), (6, .long ((M.2.1 37 ((nI t) ^^^ (nI a)).toNatClampNeg) + (M.2.1 38 (nI a).toNatClampNeg))), (5, .int (nI o)), (4, .int (nI t)), (3, .int (y)), (2, .int (x)), (1, .ref 30), (0, .ref 36)] [] SHF M) : AW l (pI pg 105) P kc ks 47 [(8, .int (nI a)), (6, .long (f)), (5, .int (nI o)), (4, .int (nI t)), (3, .int (y)), (2, .int (x)), (1, .ref 30), (0, .ref 36)] [] SHF M := by
  refine AW.iload (dq rfl) rfl ?_
  show AW l (pI pg 105) P kc ks 49 _ _ SHF _
  refine AW.if_le (dq rfl) (tgt := 127) (by decide) (fun h1 => ?_) (fun h1 => ?_)
  · have _ := h1
    refine AW.aload_n (dq rfl) rfl rfl ?_
    show AW l (pI pg 105) P kc ks 128 _ _ SHF _
    refine fw_get (dq rfl) (pg_ok.2.1 105 _ _ _ _ rfl) rfl (v := .ref 37) (isTA_ok rfl (rgR_ok hJ rfl)) ?_
    show AW l (pI pg 105) P kc ks 131 _ _ SHF _
    refine AW.iload (dq rfl) rfl ?_
    show AW l (pI pg 105) P kc ks 133 _ _ SHF _
    refine AW.lload (dq rfl) rfl ?_
    show AW l (pI pg 105) P kc ks 135 _ _ SHF _
    refine AW.last (by decide) (dq rfl) rfl (o2 h1) ?_
    show AW l (pI pg 105) P kc ks 136 _ _ SHF _
    refine AW.iload (dq rfl) rfl ?_
    show AW l (pI pg 105) P kc ks 138 _ _ SHF _
    refine AW.iconst (dq rfl) ?_
    show AW l (pI pg 105) P kc ks 139 _ _ SHF _
    refine AW.isub (dq rfl) ?_
    show AW l (pI pg 105) P kc ks 140 _ _ SHF _
    refine AW.aload_n (dq rfl) rfl rfl ?_
    show AW l (pI pg 105) P kc ks 141 _ _ SHF _
    refine fw_get (dq rfl) (pg_ok.2.1 105 _ _ _ _ rfl) rfl (v := .int ((aset M 37 (nI t).toNatClampNeg (.long (f))).1 36 3)) rfl ?_
    show AW l (pI pg 105) P kc ks 144 _ _ SHF _
    refine AW.iand (dq rfl) ?_
    show AW l (pI pg 105) P kc ks 145 _ _ SHF _
    refine AW.istore (dq rfl) (by decide +kernel) ?_
    show AW l (pI pg 105) P kc ks 147 [(4, .int (((nI t) - (Int32.ofInt 1)) &&& ((aset M 37 (nI t).toNatClampNeg (.long (f))).1 36 3))), (8, .int (nI a)), (6, .long (f)), (5, .int (nI o)), (3, .int (y)), (2, .int (x)), (1, .ref 30), (0, .ref 36)] [] SHF _
    refine AW.goto (dq rfl) (tgt := 23) (by decide) ?_
    refine AW.drop (lv' := [(4, .int (((nI t) - (Int32.ofInt 1)) &&& ((aset M 37 (nI t).toNatClampNeg (.long (f))).1 36 3))), (3, .int (y)), (2, .int (x)), (1, .ref 30), (0, .ref 36)]) (List.forall_mem_cons.mpr ⟨List.mem_of_getElem? (i := 0) rfl, List.forall_mem_cons.mpr ⟨List.mem_of_getElem? (i := 4) rfl, List.forall_mem_cons.mpr ⟨List.mem_of_getElem? (i := 5) rfl, List.forall_mem_cons.mpr ⟨List.mem_of_getElem? (i := 6) rfl, List.forall_mem_cons.mpr ⟨List.mem_of_getElem? (i := 7) rfl, fun _ h => absurd h List.not_mem_nil⟩⟩⟩⟩⟩) ?_
    exact k3 h1
  · have _ := h1
    refine AW.aload_n (dq rfl) rfl rfl ?_
    show AW l (pI pg 105) P kc ks 53 _ _ SHF _
    refine fw_get (dq rfl) (pg_ok.2.1 105 _ _ _ _ rfl) rfl (v := .ref 37) (isTA_ok rfl (rgR_ok hJ rfl)) ?_
    show AW l (pI pg 105) P kc ks 56 _ _ SHF _
    refine AW.iload (dq rfl) rfl ?_
    show AW l (pI pg 105) P kc ks 58 _ _ SHF _
    refine AW.iload (dq rfl) rfl ?_
    show AW l (pI pg 105) P kc ks 60 _ _ SHF _
    refine AW.ixor (dq rfl) ?_
    show AW l (pI pg 105) P kc ks 61 _ _ SHF _
    refine AW.lald (by decide) (dq rfl) rfl (o4 h1) ?_
    show AW l (pI pg 105) P kc ks 62 _ _ SHF _
    refine AW.lstore (dq rfl) (by decide +kernel) ?_
    show AW l (pI pg 105) P kc ks 64 [(9, .long (M.2.1 37 ((nI t) ^^^ (nI a)).toNatClampNeg)), (8, .int (nI a)), (6, .long (f)), (5, .int (nI o)), (4, .int (nI t)), (3, .int (y)), (2, .int (x)), (1, .ref 30), (0, .ref 36)] [] SHF _
    refine AW.aload_n (dq rfl) rfl rfl ?_
    show AW l (pI pg 105) P kc ks 65 _ _ SHF _
    refine fw_get (dq rfl) (pg_ok.2.1 105 _ _ _ _ rfl) rfl (v := .ref 38) (isTA_ok rfl (rgR_ok hJ rfl)) ?_
    show AW l (pI pg 105) P kc ks 68 _ _ SHF _
    refine AW.iload (dq rfl) rfl ?_
    show AW l (pI pg 105) P kc ks 70 _ _ SHF _
    refine AW.lald (by decide) (dq rfl) rfl (o5 h1) ?_
    show AW l (pI pg 105) P kc ks 71 _ _ SHF _
    refine AW.ldc2 (dq rfl) (pg_ok.2.2.2.2.2.1 105 _ (-1) rfl) ?_
    show AW l (pI pg 105) P kc ks 74 _ _ SHF _
    refine AW.lcmp (dq rfl) ?_
    show AW l (pI pg 105) P kc ks 75 _ _ SHF _
    refine AW.if_eq (dq rfl) (tgt := 115) (by decide) (fun h6 => ?_) (fun h6 => ?_)
    · have _ := h6
      refine AW.iload (dq rfl) rfl ?_
      show AW l (pI pg 105) P kc ks 117 _ _ SHF _
      refine AW.iconst (dq rfl) ?_
      show AW l (pI pg 105) P kc ks 118 _ _ SHF _
      refine AW.isub (dq rfl) ?_
      show AW l (pI pg 105) P kc ks 119 _ _ SHF _
      refine AW.iload (dq rfl) rfl ?_
      show AW l (pI pg 105) P kc ks 121 _ _ SHF _
      refine AW.iand (dq rfl) ?_
      show AW l (pI pg 105) P kc ks 122 _ _ SHF _
      refine AW.istore (dq rfl) (by decide +kernel) ?_
      show AW l (pI pg 105) P kc ks 124 [(8, .int (((nI a) - (Int32.ofInt 1)) &&& (nI o))), (9, .long (M.2.1 37 ((nI t) ^^^ (nI a)).toNatClampNeg)), (6, .long (f)), (5, .int (nI o)), (4, .int (nI t)), (3, .int (y)), (2, .int (x)), (1, .ref 30), (0, .ref 36)] [] SHF _
      refine AW.goto (dq rfl) (tgt := 47) (by decide) ?_
      refine AW.drop (lv' := [(8, .int (((nI a) - (Int32.ofInt 1)) &&& (nI o))), (6, .long (f)), (5, .int (nI o)), (4, .int (nI t)), (3, .int (y)), (2, .int (x)), (1, .ref 30), (0, .ref 36)]) (List.forall_mem_cons.mpr ⟨List.mem_of_getElem? (i := 0) rfl, List.forall_mem_cons.mpr ⟨List.mem_of_getElem? (i := 2) rfl, List.forall_mem_cons.mpr ⟨List.mem_of_getElem? (i := 3) rfl, List.forall_mem_cons.mpr ⟨List.mem_of_getElem? (i := 4) rfl, List.forall_mem_cons.mpr ⟨List.mem_of_getElem? (i := 5) rfl, List.forall_mem_cons.mpr ⟨List.mem_of_getElem? (i := 6) rfl, List.forall_mem_cons.mpr ⟨List.mem_of_getElem? (i := 7) rfl, List.forall_mem_cons.mpr ⟨List.mem_of_getElem? (i := 8) rfl, fun _ h => absurd h List.not_mem_nil⟩⟩⟩⟩⟩⟩⟩⟩) ?_
      exact k7 h1 h6
    · have _ := h6
      refine AW.lload (dq rfl) rfl ?_
      show AW l (pI pg 105) P kc ks 80 _ _ SHF _
      refine AW.ldc2 (dq rfl) (pg_ok.2.2.2.2.2.1 105 _ (-1) rfl) ?_
      show AW l (pI pg 105) P kc ks 83 _ _ SHF _
      refine AW.lcmp (dq rfl) ?_
      show AW l (pI pg 105) P kc ks 84 _ _ SHF _
      refine AW.if_eq (dq rfl) (tgt := 115) (by decide) (fun h8 => ?_) (fun h8 => ?_)
      · have _ := h8
        refine AW.iload (dq rfl) rfl ?_
        show AW l (pI pg 105) P kc ks 117 _ _ SHF _
        refine AW.iconst (dq rfl) ?_
        show AW l (pI pg 105) P kc ks 118 _ _ SHF _
        refine AW.isub (dq rfl) ?_
        show AW l (pI pg 105) P kc ks 119 _ _ SHF _
        refine AW.iload (dq rfl) rfl ?_
        show AW l (pI pg 105) P kc ks 121 _ _ SHF _
        refine AW.iand (dq rfl) ?_
        show AW l (pI pg 105) P kc ks 122 _ _ SHF _
        refine AW.istore (dq rfl) (by decide +kernel) ?_
        show AW l (pI pg 105) P kc ks 124 [(8, .int (((nI a) - (Int32.ofInt 1)) &&& (nI o))), (9, .long (M.2.1 37 ((nI t) ^^^ (nI a)).toNatClampNeg)), (6, .long (f)), (5, .int (nI o)), (4, .int (nI t)), (3, .int (y)), (2, .int (x)), (1, .ref 30), (0, .ref 36)] [] SHF _
        refine AW.goto (dq rfl) (tgt := 47) (by decide) ?_
        refine AW.drop (lv' := [(8, .int (((nI a) - (Int32.ofInt 1)) &&& (nI o))), (6, .long (f)), (5, .int (nI o)), (4, .int (nI t)), (3, .int (y)), (2, .int (x)), (1, .ref 30), (0, .ref 36)]) (List.forall_mem_cons.mpr ⟨List.mem_of_getElem? (i := 0) rfl, List.forall_mem_cons.mpr ⟨List.mem_of_getElem? (i := 2) rfl, List.forall_mem_cons.mpr ⟨List.mem_of_getElem? (i := 3) rfl, List.forall_mem_cons.mpr ⟨List.mem_of_getElem? (i := 4) rfl, List.forall_mem_cons.mpr ⟨List.mem_of_getElem? (i := 5) rfl, List.forall_mem_cons.mpr ⟨List.mem_of_getElem? (i := 6) rfl, List.forall_mem_cons.mpr ⟨List.mem_of_getElem? (i := 7) rfl, List.forall_mem_cons.mpr ⟨List.mem_of_getElem? (i := 8) rfl, fun _ h => absurd h List.not_mem_nil⟩⟩⟩⟩⟩⟩⟩⟩) ?_
        exact k9 h1 h6 h8
      · have _ := h8
        refine AW.lload (dq rfl) rfl ?_
        show AW l (pI pg 105) P kc ks 89 _ _ SHF _
        refine AW.aload_n (dq rfl) rfl rfl ?_
        show AW l (pI pg 105) P kc ks 90 _ _ SHF _
        refine fw_get (dq rfl) (pg_ok.2.1 105 _ _ _ _ rfl) rfl (v := .ref 38) (isTA_ok rfl (rgR_ok hJ rfl)) ?_
        show AW l (pI pg 105) P kc ks 93 _ _ SHF _
        refine AW.iload (dq rfl) rfl ?_
        show AW l (pI pg 105) P kc ks 95 _ _ SHF _
        refine AW.lald (by decide) (dq rfl) rfl (o5 h1) ?_
        show AW l (pI pg 105) P kc ks 96 _ _ SHF _
        refine AW.ladd (dq rfl) ?_
        show AW l (pI pg 105) P kc ks 97 _ _ SHF _
        refine AW.lload (dq rfl) rfl ?_
        show AW l (pI pg 105) P kc ks 99 _ _ SHF _
        refine AW.lcmp (dq rfl) ?_
        show AW l (pI pg 105) P kc ks 100 _ _ SHF _
        refine AW.if_le (dq rfl) (tgt := 115) (by decide) (fun h10 => ?_) (fun h10 => ?_)
        · have _ := h10
          refine AW.iload (dq rfl) rfl ?_
          show AW l (pI pg 105) P kc ks 117 _ _ SHF _
          refine AW.iconst (dq rfl) ?_
          show AW l (pI pg 105) P kc ks 118 _ _ SHF _
          refine AW.isub (dq rfl) ?_
          show AW l (pI pg 105) P kc ks 119 _ _ SHF _
          refine AW.iload (dq rfl) rfl ?_
          show AW l (pI pg 105) P kc ks 121 _ _ SHF _
          refine AW.iand (dq rfl) ?_
          show AW l (pI pg 105) P kc ks 122 _ _ SHF _
          refine AW.istore (dq rfl) (by decide +kernel) ?_
          show AW l (pI pg 105) P kc ks 124 [(8, .int (((nI a) - (Int32.ofInt 1)) &&& (nI o))), (9, .long (M.2.1 37 ((nI t) ^^^ (nI a)).toNatClampNeg)), (6, .long (f)), (5, .int (nI o)), (4, .int (nI t)), (3, .int (y)), (2, .int (x)), (1, .ref 30), (0, .ref 36)] [] SHF _
          refine AW.goto (dq rfl) (tgt := 47) (by decide) ?_
          refine AW.drop (lv' := [(8, .int (((nI a) - (Int32.ofInt 1)) &&& (nI o))), (6, .long (f)), (5, .int (nI o)), (4, .int (nI t)), (3, .int (y)), (2, .int (x)), (1, .ref 30), (0, .ref 36)]) (List.forall_mem_cons.mpr ⟨List.mem_of_getElem? (i := 0) rfl, List.forall_mem_cons.mpr ⟨List.mem_of_getElem? (i := 2) rfl, List.forall_mem_cons.mpr ⟨List.mem_of_getElem? (i := 3) rfl, List.forall_mem_cons.mpr ⟨List.mem_of_getElem? (i := 4) rfl, List.forall_mem_cons.mpr ⟨List.mem_of_getElem? (i := 5) rfl, List.forall_mem_cons.mpr ⟨List.mem_of_getElem? (i := 6) rfl, List.forall_mem_cons.mpr ⟨List.mem_of_getElem? (i := 7) rfl, List.forall_mem_cons.mpr ⟨List.mem_of_getElem? (i := 8) rfl, fun _ h => absurd h List.not_mem_nil⟩⟩⟩⟩⟩⟩⟩⟩) ?_
          exact k11 h1 h6 h8 h10
        · have _ := h10
          refine AW.lload (dq rfl) rfl ?_
          show AW l (pI pg 105) P kc ks 105 _ _ SHF _
          refine AW.aload_n (dq rfl) rfl rfl ?_
          show AW l (pI pg 105) P kc ks 106 _ _ SHF _
          refine fw_get (dq rfl) (pg_ok.2.1 105 _ _ _ _ rfl) rfl (v := .ref 38) (isTA_ok rfl (rgR_ok hJ rfl)) ?_
          show AW l (pI pg 105) P kc ks 109 _ _ SHF _
          refine AW.iload (dq rfl) rfl ?_
          show AW l (pI pg 105) P kc ks 111 _ _ SHF _
          refine AW.lald (by decide) (dq rfl) rfl (o5 h1) ?_
          show AW l (pI pg 105) P kc ks 112 _ _ SHF _
          refine AW.ladd (dq rfl) ?_
          show AW l (pI pg 105) P kc ks 113 _ _ SHF _
          refine AW.lstore (dq rfl) (by decide +kernel) ?_
          show AW l (pI pg 105) P kc ks 115 [(6, .long ((M.2.1 37 ((nI t) ^^^ (nI a)).toNatClampNeg) + (M.2.1 38 (nI a).toNatClampNeg))), (9, .long (M.2.1 37 ((nI t) ^^^ (nI a)).toNatClampNeg)), (8, .int (nI a)), (5, .int (nI o)), (4, .int (nI t)), (3, .int (y)), (2, .int (x)), (1, .ref 30), (0, .ref 36)] [] SHF _
          refine AW.iload (dq rfl) rfl ?_
          show AW l (pI pg 105) P kc ks 117 _ _ SHF _
          refine AW.iconst (dq rfl) ?_
          show AW l (pI pg 105) P kc ks 118 _ _ SHF _
          refine AW.isub (dq rfl) ?_
          show AW l (pI pg 105) P kc ks 119 _ _ SHF _
          refine AW.iload (dq rfl) rfl ?_
          show AW l (pI pg 105) P kc ks 121 _ _ SHF _
          refine AW.iand (dq rfl) ?_
          show AW l (pI pg 105) P kc ks 122 _ _ SHF _
          refine AW.istore (dq rfl) (by decide +kernel) ?_
          show AW l (pI pg 105) P kc ks 124 [(8, .int (((nI a) - (Int32.ofInt 1)) &&& (nI o))), (6, .long ((M.2.1 37 ((nI t) ^^^ (nI a)).toNatClampNeg) + (M.2.1 38 (nI a).toNatClampNeg))), (9, .long (M.2.1 37 ((nI t) ^^^ (nI a)).toNatClampNeg)), (5, .int (nI o)), (4, .int (nI t)), (3, .int (y)), (2, .int (x)), (1, .ref 30), (0, .ref 36)] [] SHF _
          refine AW.goto (dq rfl) (tgt := 47) (by decide) ?_
          refine AW.drop (lv' := [(8, .int (((nI a) - (Int32.ofInt 1)) &&& (nI o))), (6, .long ((M.2.1 37 ((nI t) ^^^ (nI a)).toNatClampNeg) + (M.2.1 38 (nI a).toNatClampNeg))), (5, .int (nI o)), (4, .int (nI t)), (3, .int (y)), (2, .int (x)), (1, .ref 30), (0, .ref 36)]) (List.forall_mem_cons.mpr ⟨List.mem_of_getElem? (i := 0) rfl, List.forall_mem_cons.mpr ⟨List.mem_of_getElem? (i := 1) rfl, List.forall_mem_cons.mpr ⟨List.mem_of_getElem? (i := 3) rfl, List.forall_mem_cons.mpr ⟨List.mem_of_getElem? (i := 4) rfl, List.forall_mem_cons.mpr ⟨List.mem_of_getElem? (i := 5) rfl, List.forall_mem_cons.mpr ⟨List.mem_of_getElem? (i := 6) rfl, List.forall_mem_cons.mpr ⟨List.mem_of_getElem? (i := 7) rfl, List.forall_mem_cons.mpr ⟨List.mem_of_getElem? (i := 8) rfl, fun _ h => absurd h List.not_mem_nil⟩⟩⟩⟩⟩⟩⟩⟩) ?_
          exact k12 h1 h6 h8 h10

theorem roda_0 {l : aL} {P : aP} {kc ks : Nat} {x : Int32} {M : aM} (hJ : ∀ e ∈ RR.2, M.2.2 e.1 e.2.1 = e.2.2) (hl0 : l.1.stackTraces = false) (Q1 : aM → Prop) (c2 : AC l (pI pg 102) (fcV M Q1) 0 0 [.ref 36] SHF M) (k3 : ∀ (M1 : aM), ∀ (e1 : M1.2.2 = M.2.2), ∀ (q1 : Q1 M1), AW l (pI pg 101) P kc ks 7 [(4, .int (Int32.ofInt 0)), (3, .int (x)), (2, .ref 30), (1, .ref 4), (0, .ref 36)] [] SHF M1) : AW l (pI pg 101) P kc ks 0 [(0, .ref 36), (1, .ref 4), (2, .ref 30), (3, .int (x))] [] SHF M := by
  refine AW.aload_n (dq rfl) rfl rfl ?_
  show AW l (pI pg 101) P kc ks 1 _ _ SHF _
  refine fw_callVV (as := []) (dq rfl) (pg_ok.2.2.1 101 _ _ _ _ rfl) rfl (by decide +kernel) rfl rfl (c2) (fun M1 e1 q1 => ?_)
  have hJ1 : ∀ e ∈ RR.2, M1.2.2 e.1 e.2.1 = e.2.2 := fun e he => by rw [e1]; exact hJ e he
  show AW l (pI pg 101) P kc ks 4 [(0, .ref 36), (1, .ref 4), (2, .ref 30), (3, .int (x))] [] SHF _
  refine AW.iconst (dq rfl) ?_
  show AW l (pI pg 101) P kc ks 5 _ _ SHF _
  refine AW.istore (dq rfl) (by decide +kernel) ?_
  show AW l (pI pg 101) P kc ks 7 [(4, .int (Int32.ofInt 0)), (0, .ref 36), (1, .ref 4), (2, .ref 30), (3, .int (x))] [] SHF _
  refine AW.drop (lv' := [(4, .int (Int32.ofInt 0)), (3, .int (x)), (2, .ref 30), (1, .ref 4), (0, .ref 36)]) (List.forall_mem_cons.mpr ⟨List.mem_of_getElem? (i := 0) rfl, List.forall_mem_cons.mpr ⟨List.mem_of_getElem? (i := 4) rfl, List.forall_mem_cons.mpr ⟨List.mem_of_getElem? (i := 3) rfl, List.forall_mem_cons.mpr ⟨List.mem_of_getElem? (i := 2) rfl, List.forall_mem_cons.mpr ⟨List.mem_of_getElem? (i := 1) rfl, fun _ h => absurd h List.not_mem_nil⟩⟩⟩⟩⟩) ?_
  exact k3 M1 e1 q1

theorem roda_7 {l : aL} {P : aP} {kc ks : Nat} {p : Nat} {x : Int32} {M : aM} (hJ : ∀ e ∈ RR.2, M.2.2 e.1 e.2.1 = e.2.2) (hl0 : l.1.stackTraces = false) (Q2 : Int32 → aM → Prop) (c3 : ∀ (h1 : (M.1 4 0 : Int32) ≤ (nI p : Int32)), AC l (pI pg 18) (fcI M Q2) 0 0 [.ref 4] SHF M) (o4 : ∀ (h1 : (M.1 4 0 : Int32) ≤ (nI p : Int32)), ∀ (y2 : Int32), ∀ (M2 : aM), ∀ (e2 : M2.2.2 = M.2.2), ∀ (q2 : Q2 y2 M2), vp_in (y2) 256) (r5 : ∀ (h1 : (M.1 4 0 : Int32) ≤ (nI p : Int32)), ∀ (y2 : Int32), ∀ (M2 : aM), ∀ (e2 : M2.2.2 = M.2.2), ∀ (q2 : Q2 y2 M2), P (.inl (some (.long (M2.2.1 37 (y2).toNatClampNeg)))) SHF M2) (k7 : ∀ (h1 : ¬ ((M.1 4 0 : Int32) ≤ (nI p : Int32))), ∀ (h6 : (((x) >>> ((nI p) &&& 31)) &&& (Int32.ofInt 1) : Int32) = 0), AW l (pI pg 101) P kc ks 7 [(4, .int ((nI p) + Int32.ofInt 1)), (3, .int (x)), (2, .ref 30), (1, .ref 4), (0, .ref 36)] [] SHF M) (k8 : ∀ (h1 : ¬ ((M.1 4 0 : Int32) ≤ (nI p : Int32))), ∀ (h6 : ¬ ((((x) >>> ((nI p) &&& 31)) &&& (Int32.ofInt 1) : Int32) = 0)), AW l (pI pg 101) P kc ks 28 [(5, .int (Int32.ofInt 0)), (4, .int (nI p)), (3, .int (x)), (2, .ref 30), (1, .ref 4), (0, .ref 36)] [] SHF M) : AW l (pI pg 101) P kc ks 7 [(4, .int (nI p)), (3, .int (x)), (2, .ref 30), (1, .ref 4), (0, .ref 36)] [] SHF M := by
  refine AW.iload (dq rfl) rfl ?_
  show AW l (pI pg 101) P kc ks 9 _ _ SHF _
  refine AW.aload_n (dq rfl) rfl rfl ?_
  show AW l (pI pg 101) P kc ks 10 _ _ SHF _
  refine fw_get (dq rfl) (pg_ok.2.1 101 _ _ _ _ rfl) rfl (v := .int (M.1 4 0)) rfl ?_
  show AW l (pI pg 101) P kc ks 13 _ _ SHF _
  refine AW.icmp_ge (dq rfl) (tgt := 100) (by decide) (fun h1 => ?_) (fun h1 => ?_)
  · have _ := h1
    refine AW.aload_n (dq rfl) rfl rfl ?_
    show AW l (pI pg 101) P kc ks 101 _ _ SHF _
    refine fw_get (dq rfl) (pg_ok.2.1 101 _ _ _ _ rfl) rfl (v := .ref 37) (isTA_ok rfl (rgR_ok hJ rfl)) ?_
    show AW l (pI pg 101) P kc ks 104 _ _ SHF _
    refine AW.aload_n (dq rfl) rfl rfl ?_
    show AW l (pI pg 101) P kc ks 105 _ _ SHF _
    refine fw_callVI (as := []) (dq rfl) (pg_ok.2.2.1 101 _ _ _ _ rfl) rfl (by decide +kernel) rfl rfl (c3 h1) (fun y2 M2 e2 q2 => ?_)
    have hJ2 : ∀ e ∈ RR.2, M2.2.2 e.1 e.2.1 = e.2.2 := fun e he => by rw [e2]; exact hJ e he
    show AW l (pI pg 101) P kc ks 108 [(4, .int (nI p)), (3, .int (x)), (2, .ref 30), (1, .ref 4), (0, .ref 36)] [.int (y2), .ref 37] SHF _
    refine AW.lald (by decide) (dq rfl) rfl (o4 h1 y2 M2 e2 q2) ?_
    show AW l (pI pg 101) P kc ks 109 _ _ SHF _
    refine AW.lret (dq rfl) rfl ?_
    exact r5 h1 y2 M2 e2 q2
  · have _ := h1
    refine AW.iload_n (dq rfl) rfl ?_
    show AW l (pI pg 101) P kc ks 17 _ _ SHF _
    refine AW.iload (dq rfl) rfl ?_
    show AW l (pI pg 101) P kc ks 19 _ _ SHF _
    refine AW.ishr (dq rfl) ?_
    show AW l (pI pg 101) P kc ks 20 _ _ SHF _
    refine AW.iconst (dq rfl) ?_
    show AW l (pI pg 101) P kc ks 21 _ _ SHF _
    refine AW.iand (dq rfl) ?_
    show AW l (pI pg 101) P kc ks 22 _ _ SHF _
    refine AW.if_eq (dq rfl) (tgt := 94) (by decide) (fun h6 => ?_) (fun h6 => ?_)
    · have _ := h6
      refine AW.iinc (dq rfl) rfl (by decide +kernel) ?_
      show AW l (pI pg 101) P kc ks 97 [(4, .int ((nI p) + Int32.ofInt 1)), (3, .int (x)), (2, .ref 30), (1, .ref 4), (0, .ref 36)] [] SHF _
      refine AW.goto (dq rfl) (tgt := 7) (by decide) ?_
      refine AW.drop (lv' := [(4, .int ((nI p) + Int32.ofInt 1)), (3, .int (x)), (2, .ref 30), (1, .ref 4), (0, .ref 36)]) (List.forall_mem_cons.mpr ⟨List.mem_of_getElem? (i := 0) rfl, List.forall_mem_cons.mpr ⟨List.mem_of_getElem? (i := 1) rfl, List.forall_mem_cons.mpr ⟨List.mem_of_getElem? (i := 2) rfl, List.forall_mem_cons.mpr ⟨List.mem_of_getElem? (i := 3) rfl, List.forall_mem_cons.mpr ⟨List.mem_of_getElem? (i := 4) rfl, fun _ h => absurd h List.not_mem_nil⟩⟩⟩⟩⟩) ?_
      exact k7 h1 h6
    · have _ := h6
      refine AW.iconst (dq rfl) ?_
      show AW l (pI pg 101) P kc ks 26 _ _ SHF _
      refine AW.istore (dq rfl) (by decide +kernel) ?_
      show AW l (pI pg 101) P kc ks 28 [(5, .int (Int32.ofInt 0)), (4, .int (nI p)), (3, .int (x)), (2, .ref 30), (1, .ref 4), (0, .ref 36)] [] SHF _
      refine AW.drop (lv' := [(5, .int (Int32.ofInt 0)), (4, .int (nI p)), (3, .int (x)), (2, .ref 30), (1, .ref 4), (0, .ref 36)]) (List.forall_mem_cons.mpr ⟨List.mem_of_getElem? (i := 0) rfl, List.forall_mem_cons.mpr ⟨List.mem_of_getElem? (i := 1) rfl, List.forall_mem_cons.mpr ⟨List.mem_of_getElem? (i := 2) rfl, List.forall_mem_cons.mpr ⟨List.mem_of_getElem? (i := 3) rfl, List.forall_mem_cons.mpr ⟨List.mem_of_getElem? (i := 4) rfl, List.forall_mem_cons.mpr ⟨List.mem_of_getElem? (i := 5) rfl, fun _ h => absurd h List.not_mem_nil⟩⟩⟩⟩⟩⟩) ?_
      exact k8 h1 h6

theorem roda_28 {l : aL} {P : aP} {kc ks : Nat} {p w : Nat} {x : Int32} {M : aM} (hJ : ∀ e ∈ RR.2, M.2.2 e.1 e.2.1 = e.2.2) (hl0 : l.1.stackTraces = false) (o2 : ∀ (h1 : (M.1 4 1 : Int32) ≤ (nI w : Int32)), vp_in (nI p) 6) (Q3 : aM → Prop) (c4 : ∀ (h1 : (M.1 4 1 : Int32) ≤ (nI w : Int32)), AC l (pI pg 105) (fcV M Q3) 0 0 [.ref 36, .ref 30, .int (M.1 7 (nI p).toNatClampNeg), .int (M.1 5 (nI p).toNatClampNeg)] SHF M) (k5 : ∀ (h1 : (M.1 4 1 : Int32) ≤ (nI w : Int32)), ∀ (M3 : aM), ∀ (e3 : M3.2.2 = M.2.2), ∀ (q3 : Q3 M3), AW l (pI pg 101) P kc ks 7 [(4, .int ((nI p) + Int32.ofInt 1)), (3, .int (x)), (2, .ref 30), (1, .ref 4), (0, .ref 36)] [] SHF M3) (o6 : ∀ (h1 : ¬ ((M.1 4 1 : Int32) ≤ (nI w : Int32))), vp_in (((nI p) * ((Int8.ofInt 8).toInt32)) + (nI w)) 48) (Q7 : Int64 → aM → Prop) (c8 : ∀ (h1 : ¬ ((M.1 4 1 : Int32) ≤ (nI w : Int32))), AC l (pI pg 103) (fcJ M Q7) 0 0 [.long ((M.1 12 (((nI p) * ((Int8.ofInt 8).toInt32)) + (nI w)).toNatClampNeg).toInt64), .int (nI p), .int (nI w)] SHF M) (o9 : ∀ (h1 : ¬ ((M.1 4 1 : Int32) ≤ (nI w : Int32))), ∀ (y7 : Int64), ∀ (M7 : aM), ∀ (e7 : M7.2.2 = M.2.2), ∀ (q7 : Q7 y7 M7), vp_in (nI w) 8) (k10 : ∀ (h1 : ¬ ((M.1 4 1 : Int32) ≤ (nI w : Int32))), ∀ (y7 : Int64), ∀ (M7 : aM), ∀ (e7 : M7.2.2 = M.2.2), ∀ (q7 : Q7 y7 M7), AW l (pI pg 101) P kc ks 28 [(5, .int ((nI w) + Int32.ofInt 1)), (4, .int (nI p)), (3, .int (x)), (2, .ref 30), (1, .ref 4), (0, .ref 36)] [] SHF (aset M7 39 (nI w).toNatClampNeg (.long (y7)))) : AW l (pI pg 101) P kc ks 28 [(5, .int (nI w)), (4, .int (nI p)), (3, .int (x)), (2, .ref 30), (1, .ref 4), (0, .ref 36)] [] SHF M := by
  refine AW.iload (dq rfl) rfl ?_
  show AW l (pI pg 101) P kc ks 30 _ _ SHF _
  refine AW.aload_n (dq rfl) rfl rfl ?_
  show AW l (pI pg 101) P kc ks 31 _ _ SHF _
  refine fw_get (dq rfl) (pg_ok.2.1 101 _ _ _ _ rfl) rfl (v := .int (M.1 4 1)) rfl ?_
  show AW l (pI pg 101) P kc ks 34 _ _ SHF _
  refine AW.icmp_ge (dq rfl) (tgt := 75) (by decide) (fun h1 => ?_) (fun h1 => ?_)
  · have _ := h1
    refine AW.aload_n (dq rfl) rfl rfl ?_
    show AW l (pI pg 101) P kc ks 76 _ _ SHF _
    refine AW.aload_n (dq rfl) rfl rfl ?_
    show AW l (pI pg 101) P kc ks 77 _ _ SHF _
    refine AW.aload_n (dq rfl) rfl rfl ?_
    show AW l (pI pg 101) P kc ks 78 _ _ SHF _
    refine fw_get (dq rfl) (pg_ok.2.1 101 _ _ _ _ rfl) rfl (v := .ref 7) (isTA_ok rfl (rgR_ok hJ rfl)) ?_
    show AW l (pI pg 101) P kc ks 81 _ _ SHF _
    refine AW.iload (dq rfl) rfl ?_
    show AW l (pI pg 101) P kc ks 83 _ _ SHF _
    refine AW.iald (dq rfl) rfl (o2 h1) ?_
    show AW l (pI pg 101) P kc ks 84 _ _ SHF _
    refine AW.aload_n (dq rfl) rfl rfl ?_
    show AW l (pI pg 101) P kc ks 85 _ _ SHF _
    refine fw_get (dq rfl) (pg_ok.2.1 101 _ _ _ _ rfl) rfl (v := .ref 5) (isTA_ok rfl (rgR_ok hJ rfl)) ?_
    show AW l (pI pg 101) P kc ks 88 _ _ SHF _
    refine AW.iload (dq rfl) rfl ?_
    show AW l (pI pg 101) P kc ks 90 _ _ SHF _
    refine AW.iald (dq rfl) rfl (o2 h1) ?_
    show AW l (pI pg 101) P kc ks 91 _ _ SHF _
    refine fw_callVV (as := [.ref 30, .int (M.1 7 (nI p).toNatClampNeg), .int (M.1 5 (nI p).toNatClampNeg)]) (dq rfl) (pg_ok.2.2.1 101 _ _ _ _ rfl) rfl (by decide +kernel) rfl rfl (c4 h1) (fun M3 e3 q3 => ?_)
    have hJ3 : ∀ e ∈ RR.2, M3.2.2 e.1 e.2.1 = e.2.2 := fun e he => by rw [e3]; exact hJ e he
    show AW l (pI pg 101) P kc ks 94 [(5, .int (nI w)), (4, .int (nI p)), (3, .int (x)), (2, .ref 30), (1, .ref 4), (0, .ref 36)] [] SHF _
    refine AW.iinc (dq rfl) rfl (by decide +kernel) ?_
    show AW l (pI pg 101) P kc ks 97 [(4, .int ((nI p) + Int32.ofInt 1)), (5, .int (nI w)), (3, .int (x)), (2, .ref 30), (1, .ref 4), (0, .ref 36)] [] SHF _
    refine AW.goto (dq rfl) (tgt := 7) (by decide) ?_
    refine AW.drop (lv' := [(4, .int ((nI p) + Int32.ofInt 1)), (3, .int (x)), (2, .ref 30), (1, .ref 4), (0, .ref 36)]) (List.forall_mem_cons.mpr ⟨List.mem_of_getElem? (i := 0) rfl, List.forall_mem_cons.mpr ⟨List.mem_of_getElem? (i := 2) rfl, List.forall_mem_cons.mpr ⟨List.mem_of_getElem? (i := 3) rfl, List.forall_mem_cons.mpr ⟨List.mem_of_getElem? (i := 4) rfl, List.forall_mem_cons.mpr ⟨List.mem_of_getElem? (i := 5) rfl, fun _ h => absurd h List.not_mem_nil⟩⟩⟩⟩⟩) ?_
    exact k5 h1 M3 e3 q3
  · have _ := h1
    refine AW.aload_n (dq rfl) rfl rfl ?_
    show AW l (pI pg 101) P kc ks 38 _ _ SHF _
    refine fw_get (dq rfl) (pg_ok.2.1 101 _ _ _ _ rfl) rfl (v := .ref 12) (isTA_ok rfl (rgR_ok hJ rfl)) ?_
    show AW l (pI pg 101) P kc ks 41 _ _ SHF _
    refine AW.iload (dq rfl) rfl ?_
    show AW l (pI pg 101) P kc ks 43 _ _ SHF _
    refine AW.bipush (dq rfl) ?_
    show AW l (pI pg 101) P kc ks 45 _ _ SHF _
    refine AW.imul (dq rfl) ?_
    show AW l (pI pg 101) P kc ks 46 _ _ SHF _
    refine AW.iload (dq rfl) rfl ?_
    show AW l (pI pg 101) P kc ks 48 _ _ SHF _
    refine AW.iadd (dq rfl) ?_
    show AW l (pI pg 101) P kc ks 49 _ _ SHF _
    refine AW.iald (dq rfl) rfl (o6 h1) ?_
    show AW l (pI pg 101) P kc ks 50 _ _ SHF _
    refine AW.istore (dq rfl) (by decide +kernel) ?_
    show AW l (pI pg 101) P kc ks 52 [(6, .int (M.1 12 (((nI p) * ((Int8.ofInt 8).toInt32)) + (nI w)).toNatClampNeg)), (5, .int (nI w)), (4, .int (nI p)), (3, .int (x)), (2, .ref 30), (1, .ref 4), (0, .ref 36)] [] SHF _
    refine AW.aload_n (dq rfl) rfl rfl ?_
    show AW l (pI pg 101) P kc ks 53 _ _ SHF _
    refine fw_get (dq rfl) (pg_ok.2.1 101 _ _ _ _ rfl) rfl (v := .ref 39) (isTA_ok rfl (rgR_ok hJ rfl)) ?_
    show AW l (pI pg 101) P kc ks 56 _ _ SHF _
    refine AW.iload (dq rfl) rfl ?_
    show AW l (pI pg 101) P kc ks 58 _ _ SHF _
    refine AW.iload (dq rfl) rfl ?_
    show AW l (pI pg 101) P kc ks 60 _ _ SHF _
    refine AW.i2l (dq rfl) ?_
    show AW l (pI pg 101) P kc ks 61 _ _ SHF _
    refine AW.iload (dq rfl) rfl ?_
    show AW l (pI pg 101) P kc ks 63 _ _ SHF _
    refine AW.iload (dq rfl) rfl ?_
    show AW l (pI pg 101) P kc ks 65 _ _ SHF _
    refine fw_callSJ (as := [.long ((M.1 12 (((nI p) * ((Int8.ofInt 8).toInt32)) + (nI w)).toNatClampNeg).toInt64), .int (nI p), .int (nI w)]) (dq rfl) (pg_ok.2.2.1 101 _ _ _ _ rfl) (by decide +kernel) rfl rfl (c8 h1) (fun y7 M7 e7 q7 => ?_)
    have hJ7 : ∀ e ∈ RR.2, M7.2.2 e.1 e.2.1 = e.2.2 := fun e he => by rw [e7]; exact hJ e he
    show AW l (pI pg 101) P kc ks 68 [(6, .int (M.1 12 (((nI p) * ((Int8.ofInt 8).toInt32)) + (nI w)).toNatClampNeg)), (5, .int (nI w)), (4, .int (nI p)), (3, .int (x)), (2, .ref 30), (1, .ref 4), (0, .ref 36)] [.long (y7), .int (nI w), .ref 39] SHF _
    refine AW.last (by decide) (dq rfl) rfl (o9 h1 y7 M7 e7 q7) ?_
    show AW l (pI pg 101) P kc ks 69 _ _ SHF _
    refine AW.iinc (dq rfl) rfl (by decide +kernel) ?_
    show AW l (pI pg 101) P kc ks 72 [(5, .int ((nI w) + Int32.ofInt 1)), (6, .int (M.1 12 (((nI p) * ((Int8.ofInt 8).toInt32)) + (nI w)).toNatClampNeg)), (4, .int (nI p)), (3, .int (x)), (2, .ref 30), (1, .ref 4), (0, .ref 36)] [] SHF _
    refine AW.goto (dq rfl) (tgt := 28) (by decide) ?_
    refine AW.drop (lv' := [(5, .int ((nI w) + Int32.ofInt 1)), (4, .int (nI p)), (3, .int (x)), (2, .ref 30), (1, .ref 4), (0, .ref 36)]) (List.forall_mem_cons.mpr ⟨List.mem_of_getElem? (i := 0) rfl, List.forall_mem_cons.mpr ⟨List.mem_of_getElem? (i := 2) rfl, List.forall_mem_cons.mpr ⟨List.mem_of_getElem? (i := 3) rfl, List.forall_mem_cons.mpr ⟨List.mem_of_getElem? (i := 4) rfl, List.forall_mem_cons.mpr ⟨List.mem_of_getElem? (i := 5) rfl, List.forall_mem_cons.mpr ⟨List.mem_of_getElem? (i := 6) rfl, fun _ h => absurd h List.not_mem_nil⟩⟩⟩⟩⟩⟩) ?_
    exact k10 h1 y7 M7 e7 q7

theorem dyca_0 {l : aL} {P : aP} {kc ks : Nat} {x : Int32} {M : aM} (hJ : ∀ e ∈ RR.2, M.2.2 e.1 e.2.1 = e.2.2) (hl0 : l.1.stackTraces = false) (B1 : Prop) (c2 : AC l (pI pg 100) (tcV "java/lang/IllegalArgumentException" M B1) 1 6 [.ref 0, .int (x)] SHF M) (x3 : B1 → P (.inr "java/lang/IllegalArgumentException") SHF M) (Q4 : Int64 → aM → Prop) (c5 : ∀ (b1 : ¬ B1), AC l (pI pg 101) (fcJ M Q4) 0 0 [.ref 36, .ref 4, .ref 30, .int (x)] SHF M) (Q7 : Int64 → aM → Int32 → aM → Prop) (c8 : ∀ (b1 : ¬ B1), ∀ (y4 : Int64), ∀ (M4 : aM), ∀ (e4 : M4.2.2 = M.2.2), ∀ (q4 : Q4 y4 M4), ∀ (h6 : ¬ (lg_cmp (y4) ((-1)) : Int32) = 0), AC l (pI pg 108) (fcI M4 (Q7 y4 M4)) 0 0 [.long (y4)] SHF M4) (Q9 : Int64 → aM → Int32 → aM → Int32 → aM → Prop) (c10 : ∀ (b1 : ¬ B1), ∀ (y4 : Int64), ∀ (M4 : aM), ∀ (e4 : M4.2.2 = M.2.2), ∀ (q4 : Q4 y4 M4), ∀ (h6 : ¬ (lg_cmp (y4) ((-1)) : Int32) = 0), ∀ (y7 : Int32), ∀ (M7 : aM), ∀ (e7 : M7.2.2 = M4.2.2), ∀ (q7 : (Q7 y4 M4) y7 M7), AC l (pI pg 109) (fcI (aset M7 0 9 (.int (y7))) (Q9 y4 M4 y7 M7)) 0 0 [.long (y4)] SHF (aset M7 0 9 (.int (y7)))) (r11 : ∀ (b1 : ¬ B1), ∀ (y4 : Int64), ∀ (M4 : aM), ∀ (e4 : M4.2.2 = M.2.2), ∀ (q4 : Q4 y4 M4), ∀ (h6 : ¬ (lg_cmp (y4) ((-1)) : Int32) = 0), ∀ (y7 : Int32), ∀ (M7 : aM), ∀ (e7 : M7.2.2 = M4.2.2), ∀ (q7 : (Q7 y4 M4) y7 M7), ∀ (y9 : Int32), ∀ (M9 : aM), ∀ (e9 : M9.2.2 = (aset M7 0 9 (.int (y7))).2.2), ∀ (q9 : (Q9 y4 M4 y7 M7) y9 M9), P (.inl (some (.int (y9)))) SHF M9) (r12 : ∀ (b1 : ¬ B1), ∀ (y4 : Int64), ∀ (M4 : aM), ∀ (e4 : M4.2.2 = M.2.2), ∀ (q4 : Q4 y4 M4), ∀ (h6 : (lg_cmp (y4) ((-1)) : Int32) = 0), P (.inl (some (.int (Int32.ofInt (-1))))) SHF M4) : AW l (pI pg 99) P (kc + 1) (ks + 6) 0 [(0, .ref 0), (1, .int (x))] [] SHF M := by
  refine AW.aload_n (dq rfl) rfl rfl ?_
  show AW l (pI pg 99) P (kc + 1) (ks + 6) 1 _ _ SHF _
  refine AW.iload_n (dq rfl) rfl ?_
  show AW l (pI pg 99) P (kc + 1) (ks + 6) 2 _ _ SHF _
  refine fw_tcV (as := [.int (x)]) (dq rfl) (pg_ok.2.2.1 99 _ _ _ _ rfl) rfl (by decide +kernel) rfl rfl (c2) (by decide +kernel) (x3) (fun b1 => ?_)
  show AW l (pI pg 99) P kc ks 5 [(0, .ref 0), (1, .int (x))] [] SHF _
  refine AW.aload_n (dq rfl) rfl rfl ?_
  show AW l (pI pg 99) P kc ks 6 _ _ SHF _
  refine fw_get (dq rfl) (pg_ok.2.1 99 _ _ _ _ rfl) rfl (v := .ref 36) (isTA_ok rfl (rgR_ok hJ rfl)) ?_
  show AW l (pI pg 99) P kc ks 9 _ _ SHF _
  refine AW.aload_n (dq rfl) rfl rfl ?_
  show AW l (pI pg 99) P kc ks 10 _ _ SHF _
  refine fw_get (dq rfl) (pg_ok.2.1 99 _ _ _ _ rfl) rfl (v := .ref 4) (isTA_ok rfl (rgR_ok hJ rfl)) ?_
  show AW l (pI pg 99) P kc ks 13 _ _ SHF _
  refine AW.aload_n (dq rfl) rfl rfl ?_
  show AW l (pI pg 99) P kc ks 14 _ _ SHF _
  refine fw_get (dq rfl) (pg_ok.2.1 99 _ _ _ _ rfl) rfl (v := .ref 30) (isTA_ok rfl (rgR_ok hJ rfl)) ?_
  show AW l (pI pg 99) P kc ks 17 _ _ SHF _
  refine AW.iload_n (dq rfl) rfl ?_
  show AW l (pI pg 99) P kc ks 18 _ _ SHF _
  refine fw_callVJ (as := [.ref 4, .ref 30, .int (x)]) (dq rfl) (pg_ok.2.2.1 99 _ _ _ _ rfl) rfl (by decide +kernel) rfl rfl (c5 b1) (fun y4 M4 e4 q4 => ?_)
  have hJ4 : ∀ e ∈ RR.2, M4.2.2 e.1 e.2.1 = e.2.2 := fun e he => by rw [e4]; exact hJ e he
  show AW l (pI pg 99) P kc ks 21 [(0, .ref 0), (1, .int (x))] [.long (y4)] SHF _
  refine AW.lstore_n (dq rfl) (by decide +kernel) ?_
  show AW l (pI pg 99) P kc ks 22 [(2, .long (y4)), (0, .ref 0), (1, .int (x))] [] SHF _
  refine AW.lload_n (dq rfl) rfl ?_
  show AW l (pI pg 99) P kc ks 23 _ _ SHF _
  refine AW.ldc2 (dq rfl) (pg_ok.2.2.2.2.2.1 99 _ (-1) rfl) ?_
  show AW l (pI pg 99) P kc ks 26 _ _ SHF _
  refine AW.lcmp (dq rfl) ?_
  show AW l (pI pg 99) P kc ks 27 _ _ SHF _
  refine AW.if_ne (dq rfl) (tgt := 32) (by decide) (fun h6 => ?_) (fun h6 => ?_)
  · have _ := h6
    refine AW.aload_n (dq rfl) rfl rfl ?_
    show AW l (pI pg 99) P kc ks 33 _ _ SHF _
    refine AW.lload_n (dq rfl) rfl ?_
    show AW l (pI pg 99) P kc ks 34 _ _ SHF _
    refine fw_callSI (as := [.long (y4)]) (dq rfl) (pg_ok.2.2.1 99 _ _ _ _ rfl) (by decide +kernel) rfl rfl (c8 b1 y4 M4 e4 q4 h6) (fun y7 M7 e7 q7 => ?_)
    have hJ7 : ∀ e ∈ RR.2, M7.2.2 e.1 e.2.1 = e.2.2 := fun e he => by rw [e7]; exact hJ4 e he
    show AW l (pI pg 99) P kc ks 37 [(2, .long (y4)), (0, .ref 0), (1, .int (x))] [.int (y7), .ref 0] SHF _
    refine fw_putI (dq rfl) (pg_ok.2.1 99 _ _ _ _ rfl) rfl rfl rfl ?_
    show AW l (pI pg 99) P kc ks 40 _ _ SHF _
    refine AW.lload_n (dq rfl) rfl ?_
    show AW l (pI pg 99) P kc ks 41 _ _ SHF _
    refine fw_callSI (as := [.long (y4)]) (dq rfl) (pg_ok.2.2.1 99 _ _ _ _ rfl) (by decide +kernel) rfl rfl (c10 b1 y4 M4 e4 q4 h6 y7 M7 e7 q7) (fun y9 M9 e9 q9 => ?_)
    have hJ9 : ∀ e ∈ RR.2, M9.2.2 e.1 e.2.1 = e.2.2 := fun e he => by rw [e9]; exact hJ7 e he
    show AW l (pI pg 99) P kc ks 44 [(2, .long (y4)), (0, .ref 0), (1, .int (x))] [.int (y9)] SHF _
    refine AW.iret (dq rfl) rfl ?_
    exact r11 b1 y4 M4 e4 q4 h6 y7 M7 e7 q7 y9 M9 e9 q9
  · have _ := h6
    refine AW.iconst (dq rfl) ?_
    show AW l (pI pg 99) P kc ks 31 _ _ SHF _
    refine AW.iret (dq rfl) rfl ?_
    exact r12 b1 y4 M4 e4 q4 h6

theorem rodb_0 {l : aL} {P : aP} {kc ks : Nat} {x : Int32} {M : aM} (hJ : ∀ e ∈ RRS.2, M.2.2 e.1 e.2.1 = e.2.2) (hl0 : l.1.stackTraces = false) (Q1 : aM → Prop) (c2 : AC l (pI pg 102) (fcV M Q1) 0 0 [.ref 36] SHF M) (k3 : ∀ (M1 : aM), ∀ (e1 : M1.2.2 = M.2.2), ∀ (q1 : Q1 M1), AW l (pI pg 101) P kc ks 7 [(4, .int (Int32.ofInt 0)), (3, .int (x)), (2, .ref 30), (1, .ref 17), (0, .ref 36)] [] SHF M1) : AW l (pI pg 101) P kc ks 0 [(0, .ref 36), (1, .ref 17), (2, .ref 30), (3, .int (x))] [] SHF M := by
  refine AW.aload_n (dq rfl) rfl rfl ?_
  show AW l (pI pg 101) P kc ks 1 _ _ SHF _
  refine fw_callVV (as := []) (dq rfl) (pg_ok.2.2.1 101 _ _ _ _ rfl) rfl (by decide +kernel) rfl rfl (c2) (fun M1 e1 q1 => ?_)
  have hJ1 : ∀ e ∈ RRS.2, M1.2.2 e.1 e.2.1 = e.2.2 := fun e he => by rw [e1]; exact hJ e he
  show AW l (pI pg 101) P kc ks 4 [(0, .ref 36), (1, .ref 17), (2, .ref 30), (3, .int (x))] [] SHF _
  refine AW.iconst (dq rfl) ?_
  show AW l (pI pg 101) P kc ks 5 _ _ SHF _
  refine AW.istore (dq rfl) (by decide +kernel) ?_
  show AW l (pI pg 101) P kc ks 7 [(4, .int (Int32.ofInt 0)), (0, .ref 36), (1, .ref 17), (2, .ref 30), (3, .int (x))] [] SHF _
  refine AW.drop (lv' := [(4, .int (Int32.ofInt 0)), (3, .int (x)), (2, .ref 30), (1, .ref 17), (0, .ref 36)]) (List.forall_mem_cons.mpr ⟨List.mem_of_getElem? (i := 0) rfl, List.forall_mem_cons.mpr ⟨List.mem_of_getElem? (i := 4) rfl, List.forall_mem_cons.mpr ⟨List.mem_of_getElem? (i := 3) rfl, List.forall_mem_cons.mpr ⟨List.mem_of_getElem? (i := 2) rfl, List.forall_mem_cons.mpr ⟨List.mem_of_getElem? (i := 1) rfl, fun _ h => absurd h List.not_mem_nil⟩⟩⟩⟩⟩) ?_
  exact k3 M1 e1 q1

theorem rodb_7 {l : aL} {P : aP} {kc ks : Nat} {p : Nat} {x : Int32} {M : aM} (hJ : ∀ e ∈ RRS.2, M.2.2 e.1 e.2.1 = e.2.2) (hl0 : l.1.stackTraces = false) (Q2 : Int32 → aM → Prop) (c3 : ∀ (h1 : (M.1 17 0 : Int32) ≤ (nI p : Int32)), AC l (pI pg 18) (fcI M Q2) 0 0 [.ref 17] SHF M) (o4 : ∀ (h1 : (M.1 17 0 : Int32) ≤ (nI p : Int32)), ∀ (y2 : Int32), ∀ (M2 : aM), ∀ (e2 : M2.2.2 = M.2.2), ∀ (q2 : Q2 y2 M2), vp_in (y2) 256) (r5 : ∀ (h1 : (M.1 17 0 : Int32) ≤ (nI p : Int32)), ∀ (y2 : Int32), ∀ (M2 : aM), ∀ (e2 : M2.2.2 = M.2.2), ∀ (q2 : Q2 y2 M2), P (.inl (some (.long (M2.2.1 37 (y2).toNatClampNeg)))) SHF M2) (k7 : ∀ (h1 : ¬ ((M.1 17 0 : Int32) ≤ (nI p : Int32))), ∀ (h6 : (((x) >>> ((nI p) &&& 31)) &&& (Int32.ofInt 1) : Int32) = 0), AW l (pI pg 101) P kc ks 7 [(4, .int ((nI p) + Int32.ofInt 1)), (3, .int (x)), (2, .ref 30), (1, .ref 17), (0, .ref 36)] [] SHF M) (k8 : ∀ (h1 : ¬ ((M.1 17 0 : Int32) ≤ (nI p : Int32))), ∀ (h6 : ¬ ((((x) >>> ((nI p) &&& 31)) &&& (Int32.ofInt 1) : Int32) = 0)), AW l (pI pg 101) P kc ks 28 [(5, .int (Int32.ofInt 0)), (4, .int (nI p)), (3, .int (x)), (2, .ref 30), (1, .ref 17), (0, .ref 36)] [] SHF M) : AW l (pI pg 101) P kc ks 7 [(4, .int (nI p)), (3, .int (x)), (2, .ref 30), (1, .ref 17), (0, .ref 36)] [] SHF M := by
  refine AW.iload (dq rfl) rfl ?_
  show AW l (pI pg 101) P kc ks 9 _ _ SHF _
  refine AW.aload_n (dq rfl) rfl rfl ?_
  show AW l (pI pg 101) P kc ks 10 _ _ SHF _
  refine fw_get (dq rfl) (pg_ok.2.1 101 _ _ _ _ rfl) rfl (v := .int (M.1 17 0)) rfl ?_
  show AW l (pI pg 101) P kc ks 13 _ _ SHF _
  refine AW.icmp_ge (dq rfl) (tgt := 100) (by decide) (fun h1 => ?_) (fun h1 => ?_)
  · have _ := h1
    refine AW.aload_n (dq rfl) rfl rfl ?_
    show AW l (pI pg 101) P kc ks 101 _ _ SHF _
    refine fw_get (dq rfl) (pg_ok.2.1 101 _ _ _ _ rfl) rfl (v := .ref 37) (isTA_ok rfl (rgR_ok hJ rfl)) ?_
    show AW l (pI pg 101) P kc ks 104 _ _ SHF _
    refine AW.aload_n (dq rfl) rfl rfl ?_
    show AW l (pI pg 101) P kc ks 105 _ _ SHF _
    refine fw_callVI (as := []) (dq rfl) (pg_ok.2.2.1 101 _ _ _ _ rfl) rfl (by decide +kernel) rfl rfl (c3 h1) (fun y2 M2 e2 q2 => ?_)
    have hJ2 : ∀ e ∈ RRS.2, M2.2.2 e.1 e.2.1 = e.2.2 := fun e he => by rw [e2]; exact hJ e he
    show AW l (pI pg 101) P kc ks 108 [(4, .int (nI p)), (3, .int (x)), (2, .ref 30), (1, .ref 17), (0, .ref 36)] [.int (y2), .ref 37] SHF _
    refine AW.lald (by decide) (dq rfl) rfl (o4 h1 y2 M2 e2 q2) ?_
    show AW l (pI pg 101) P kc ks 109 _ _ SHF _
    refine AW.lret (dq rfl) rfl ?_
    exact r5 h1 y2 M2 e2 q2
  · have _ := h1
    refine AW.iload_n (dq rfl) rfl ?_
    show AW l (pI pg 101) P kc ks 17 _ _ SHF _
    refine AW.iload (dq rfl) rfl ?_
    show AW l (pI pg 101) P kc ks 19 _ _ SHF _
    refine AW.ishr (dq rfl) ?_
    show AW l (pI pg 101) P kc ks 20 _ _ SHF _
    refine AW.iconst (dq rfl) ?_
    show AW l (pI pg 101) P kc ks 21 _ _ SHF _
    refine AW.iand (dq rfl) ?_
    show AW l (pI pg 101) P kc ks 22 _ _ SHF _
    refine AW.if_eq (dq rfl) (tgt := 94) (by decide) (fun h6 => ?_) (fun h6 => ?_)
    · have _ := h6
      refine AW.iinc (dq rfl) rfl (by decide +kernel) ?_
      show AW l (pI pg 101) P kc ks 97 [(4, .int ((nI p) + Int32.ofInt 1)), (3, .int (x)), (2, .ref 30), (1, .ref 17), (0, .ref 36)] [] SHF _
      refine AW.goto (dq rfl) (tgt := 7) (by decide) ?_
      refine AW.drop (lv' := [(4, .int ((nI p) + Int32.ofInt 1)), (3, .int (x)), (2, .ref 30), (1, .ref 17), (0, .ref 36)]) (List.forall_mem_cons.mpr ⟨List.mem_of_getElem? (i := 0) rfl, List.forall_mem_cons.mpr ⟨List.mem_of_getElem? (i := 1) rfl, List.forall_mem_cons.mpr ⟨List.mem_of_getElem? (i := 2) rfl, List.forall_mem_cons.mpr ⟨List.mem_of_getElem? (i := 3) rfl, List.forall_mem_cons.mpr ⟨List.mem_of_getElem? (i := 4) rfl, fun _ h => absurd h List.not_mem_nil⟩⟩⟩⟩⟩) ?_
      exact k7 h1 h6
    · have _ := h6
      refine AW.iconst (dq rfl) ?_
      show AW l (pI pg 101) P kc ks 26 _ _ SHF _
      refine AW.istore (dq rfl) (by decide +kernel) ?_
      show AW l (pI pg 101) P kc ks 28 [(5, .int (Int32.ofInt 0)), (4, .int (nI p)), (3, .int (x)), (2, .ref 30), (1, .ref 17), (0, .ref 36)] [] SHF _
      refine AW.drop (lv' := [(5, .int (Int32.ofInt 0)), (4, .int (nI p)), (3, .int (x)), (2, .ref 30), (1, .ref 17), (0, .ref 36)]) (List.forall_mem_cons.mpr ⟨List.mem_of_getElem? (i := 0) rfl, List.forall_mem_cons.mpr ⟨List.mem_of_getElem? (i := 1) rfl, List.forall_mem_cons.mpr ⟨List.mem_of_getElem? (i := 2) rfl, List.forall_mem_cons.mpr ⟨List.mem_of_getElem? (i := 3) rfl, List.forall_mem_cons.mpr ⟨List.mem_of_getElem? (i := 4) rfl, List.forall_mem_cons.mpr ⟨List.mem_of_getElem? (i := 5) rfl, fun _ h => absurd h List.not_mem_nil⟩⟩⟩⟩⟩⟩) ?_
      exact k8 h1 h6

theorem rodb_28 {l : aL} {P : aP} {kc ks : Nat} {p w : Nat} {x : Int32} {M : aM} (hJ : ∀ e ∈ RRS.2, M.2.2 e.1 e.2.1 = e.2.2) (hl0 : l.1.stackTraces = false) (o2 : ∀ (h1 : (M.1 17 1 : Int32) ≤ (nI w : Int32)), vp_in (nI p) 6) (Q3 : aM → Prop) (c4 : ∀ (h1 : (M.1 17 1 : Int32) ≤ (nI w : Int32)), AC l (pI pg 105) (fcV M Q3) 0 0 [.ref 36, .ref 30, .int (M.1 20 (nI p).toNatClampNeg), .int (M.1 18 (nI p).toNatClampNeg)] SHF M) (k5 : ∀ (h1 : (M.1 17 1 : Int32) ≤ (nI w : Int32)), ∀ (M3 : aM), ∀ (e3 : M3.2.2 = M.2.2), ∀ (q3 : Q3 M3), AW l (pI pg 101) P kc ks 7 [(4, .int ((nI p) + Int32.ofInt 1)), (3, .int (x)), (2, .ref 30), (1, .ref 17), (0, .ref 36)] [] SHF M3) (o6 : ∀ (h1 : ¬ ((M.1 17 1 : Int32) ≤ (nI w : Int32))), vp_in (((nI p) * ((Int8.ofInt 8).toInt32)) + (nI w)) 48) (Q7 : Int64 → aM → Prop) (c8 : ∀ (h1 : ¬ ((M.1 17 1 : Int32) ≤ (nI w : Int32))), AC l (pI pg 103) (fcJ M Q7) 0 0 [.long ((M.1 25 (((nI p) * ((Int8.ofInt 8).toInt32)) + (nI w)).toNatClampNeg).toInt64), .int (nI p), .int (nI w)] SHF M) (o9 : ∀ (h1 : ¬ ((M.1 17 1 : Int32) ≤ (nI w : Int32))), ∀ (y7 : Int64), ∀ (M7 : aM), ∀ (e7 : M7.2.2 = M.2.2), ∀ (q7 : Q7 y7 M7), vp_in (nI w) 8) (k10 : ∀ (h1 : ¬ ((M.1 17 1 : Int32) ≤ (nI w : Int32))), ∀ (y7 : Int64), ∀ (M7 : aM), ∀ (e7 : M7.2.2 = M.2.2), ∀ (q7 : Q7 y7 M7), AW l (pI pg 101) P kc ks 28 [(5, .int ((nI w) + Int32.ofInt 1)), (4, .int (nI p)), (3, .int (x)), (2, .ref 30), (1, .ref 17), (0, .ref 36)] [] SHF (aset M7 39 (nI w).toNatClampNeg (.long (y7)))) : AW l (pI pg 101) P kc ks 28 [(5, .int (nI w)), (4, .int (nI p)), (3, .int (x)), (2, .ref 30), (1, .ref 17), (0, .ref 36)] [] SHF M := by
  refine AW.iload (dq rfl) rfl ?_
  show AW l (pI pg 101) P kc ks 30 _ _ SHF _
  refine AW.aload_n (dq rfl) rfl rfl ?_
  show AW l (pI pg 101) P kc ks 31 _ _ SHF _
  refine fw_get (dq rfl) (pg_ok.2.1 101 _ _ _ _ rfl) rfl (v := .int (M.1 17 1)) rfl ?_
  show AW l (pI pg 101) P kc ks 34 _ _ SHF _
  refine AW.icmp_ge (dq rfl) (tgt := 75) (by decide) (fun h1 => ?_) (fun h1 => ?_)
  · have _ := h1
    refine AW.aload_n (dq rfl) rfl rfl ?_
    show AW l (pI pg 101) P kc ks 76 _ _ SHF _
    refine AW.aload_n (dq rfl) rfl rfl ?_
    show AW l (pI pg 101) P kc ks 77 _ _ SHF _
    refine AW.aload_n (dq rfl) rfl rfl ?_
    show AW l (pI pg 101) P kc ks 78 _ _ SHF _
    refine fw_get (dq rfl) (pg_ok.2.1 101 _ _ _ _ rfl) rfl (v := .ref 20) (isTA_ok rfl (rgR_ok hJ rfl)) ?_
    show AW l (pI pg 101) P kc ks 81 _ _ SHF _
    refine AW.iload (dq rfl) rfl ?_
    show AW l (pI pg 101) P kc ks 83 _ _ SHF _
    refine AW.iald (dq rfl) rfl (o2 h1) ?_
    show AW l (pI pg 101) P kc ks 84 _ _ SHF _
    refine AW.aload_n (dq rfl) rfl rfl ?_
    show AW l (pI pg 101) P kc ks 85 _ _ SHF _
    refine fw_get (dq rfl) (pg_ok.2.1 101 _ _ _ _ rfl) rfl (v := .ref 18) (isTA_ok rfl (rgR_ok hJ rfl)) ?_
    show AW l (pI pg 101) P kc ks 88 _ _ SHF _
    refine AW.iload (dq rfl) rfl ?_
    show AW l (pI pg 101) P kc ks 90 _ _ SHF _
    refine AW.iald (dq rfl) rfl (o2 h1) ?_
    show AW l (pI pg 101) P kc ks 91 _ _ SHF _
    refine fw_callVV (as := [.ref 30, .int (M.1 20 (nI p).toNatClampNeg), .int (M.1 18 (nI p).toNatClampNeg)]) (dq rfl) (pg_ok.2.2.1 101 _ _ _ _ rfl) rfl (by decide +kernel) rfl rfl (c4 h1) (fun M3 e3 q3 => ?_)
    have hJ3 : ∀ e ∈ RRS.2, M3.2.2 e.1 e.2.1 = e.2.2 := fun e he => by rw [e3]; exact hJ e he
    show AW l (pI pg 101) P kc ks 94 [(5, .int (nI w)), (4, .int (nI p)), (3, .int (x)), (2, .ref 30), (1, .ref 17), (0, .ref 36)] [] SHF _
    refine AW.iinc (dq rfl) rfl (by decide +kernel) ?_
    show AW l (pI pg 101) P kc ks 97 [(4, .int ((nI p) + Int32.ofInt 1)), (5, .int (nI w)), (3, .int (x)), (2, .ref 30), (1, .ref 17), (0, .ref 36)] [] SHF _
    refine AW.goto (dq rfl) (tgt := 7) (by decide) ?_
    refine AW.drop (lv' := [(4, .int ((nI p) + Int32.ofInt 1)), (3, .int (x)), (2, .ref 30), (1, .ref 17), (0, .ref 36)]) (List.forall_mem_cons.mpr ⟨List.mem_of_getElem? (i := 0) rfl, List.forall_mem_cons.mpr ⟨List.mem_of_getElem? (i := 2) rfl, List.forall_mem_cons.mpr ⟨List.mem_of_getElem? (i := 3) rfl, List.forall_mem_cons.mpr ⟨List.mem_of_getElem? (i := 4) rfl, List.forall_mem_cons.mpr ⟨List.mem_of_getElem? (i := 5) rfl, fun _ h => absurd h List.not_mem_nil⟩⟩⟩⟩⟩) ?_
    exact k5 h1 M3 e3 q3
  · have _ := h1
    refine AW.aload_n (dq rfl) rfl rfl ?_
    show AW l (pI pg 101) P kc ks 38 _ _ SHF _
    refine fw_get (dq rfl) (pg_ok.2.1 101 _ _ _ _ rfl) rfl (v := .ref 25) (isTA_ok rfl (rgR_ok hJ rfl)) ?_
    show AW l (pI pg 101) P kc ks 41 _ _ SHF _
    refine AW.iload (dq rfl) rfl ?_
    show AW l (pI pg 101) P kc ks 43 _ _ SHF _
    refine AW.bipush (dq rfl) ?_
    show AW l (pI pg 101) P kc ks 45 _ _ SHF _
    refine AW.imul (dq rfl) ?_
    show AW l (pI pg 101) P kc ks 46 _ _ SHF _
    refine AW.iload (dq rfl) rfl ?_
    show AW l (pI pg 101) P kc ks 48 _ _ SHF _
    refine AW.iadd (dq rfl) ?_
    show AW l (pI pg 101) P kc ks 49 _ _ SHF _
    refine AW.iald (dq rfl) rfl (o6 h1) ?_
    show AW l (pI pg 101) P kc ks 50 _ _ SHF _
    refine AW.istore (dq rfl) (by decide +kernel) ?_
    show AW l (pI pg 101) P kc ks 52 [(6, .int (M.1 25 (((nI p) * ((Int8.ofInt 8).toInt32)) + (nI w)).toNatClampNeg)), (5, .int (nI w)), (4, .int (nI p)), (3, .int (x)), (2, .ref 30), (1, .ref 17), (0, .ref 36)] [] SHF _
    refine AW.aload_n (dq rfl) rfl rfl ?_
    show AW l (pI pg 101) P kc ks 53 _ _ SHF _
    refine fw_get (dq rfl) (pg_ok.2.1 101 _ _ _ _ rfl) rfl (v := .ref 39) (isTA_ok rfl (rgR_ok hJ rfl)) ?_
    show AW l (pI pg 101) P kc ks 56 _ _ SHF _
    refine AW.iload (dq rfl) rfl ?_
    show AW l (pI pg 101) P kc ks 58 _ _ SHF _
    refine AW.iload (dq rfl) rfl ?_
    show AW l (pI pg 101) P kc ks 60 _ _ SHF _
    refine AW.i2l (dq rfl) ?_
    show AW l (pI pg 101) P kc ks 61 _ _ SHF _
    refine AW.iload (dq rfl) rfl ?_
    show AW l (pI pg 101) P kc ks 63 _ _ SHF _
    refine AW.iload (dq rfl) rfl ?_
    show AW l (pI pg 101) P kc ks 65 _ _ SHF _
    refine fw_callSJ (as := [.long ((M.1 25 (((nI p) * ((Int8.ofInt 8).toInt32)) + (nI w)).toNatClampNeg).toInt64), .int (nI p), .int (nI w)]) (dq rfl) (pg_ok.2.2.1 101 _ _ _ _ rfl) (by decide +kernel) rfl rfl (c8 h1) (fun y7 M7 e7 q7 => ?_)
    have hJ7 : ∀ e ∈ RRS.2, M7.2.2 e.1 e.2.1 = e.2.2 := fun e he => by rw [e7]; exact hJ e he
    show AW l (pI pg 101) P kc ks 68 [(6, .int (M.1 25 (((nI p) * ((Int8.ofInt 8).toInt32)) + (nI w)).toNatClampNeg)), (5, .int (nI w)), (4, .int (nI p)), (3, .int (x)), (2, .ref 30), (1, .ref 17), (0, .ref 36)] [.long (y7), .int (nI w), .ref 39] SHF _
    refine AW.last (by decide) (dq rfl) rfl (o9 h1 y7 M7 e7 q7) ?_
    show AW l (pI pg 101) P kc ks 69 _ _ SHF _
    refine AW.iinc (dq rfl) rfl (by decide +kernel) ?_
    show AW l (pI pg 101) P kc ks 72 [(5, .int ((nI w) + Int32.ofInt 1)), (6, .int (M.1 25 (((nI p) * ((Int8.ofInt 8).toInt32)) + (nI w)).toNatClampNeg)), (4, .int (nI p)), (3, .int (x)), (2, .ref 30), (1, .ref 17), (0, .ref 36)] [] SHF _
    refine AW.goto (dq rfl) (tgt := 28) (by decide) ?_
    refine AW.drop (lv' := [(5, .int ((nI w) + Int32.ofInt 1)), (4, .int (nI p)), (3, .int (x)), (2, .ref 30), (1, .ref 17), (0, .ref 36)]) (List.forall_mem_cons.mpr ⟨List.mem_of_getElem? (i := 0) rfl, List.forall_mem_cons.mpr ⟨List.mem_of_getElem? (i := 2) rfl, List.forall_mem_cons.mpr ⟨List.mem_of_getElem? (i := 3) rfl, List.forall_mem_cons.mpr ⟨List.mem_of_getElem? (i := 4) rfl, List.forall_mem_cons.mpr ⟨List.mem_of_getElem? (i := 5) rfl, List.forall_mem_cons.mpr ⟨List.mem_of_getElem? (i := 6) rfl, fun _ h => absurd h List.not_mem_nil⟩⟩⟩⟩⟩⟩) ?_
    exact k10 h1 y7 M7 e7 q7

theorem dycb_0 {l : aL} {P : aP} {kc ks : Nat} {x : Int32} {M : aM} (hJ : ∀ e ∈ RRS.2, M.2.2 e.1 e.2.1 = e.2.2) (hl0 : l.1.stackTraces = false) (B1 : Prop) (c2 : AC l (pI pg 100) (tcV "java/lang/IllegalArgumentException" M B1) 1 6 [.ref 0, .int (x)] SHF M) (x3 : B1 → P (.inr "java/lang/IllegalArgumentException") SHF M) (Q4 : Int64 → aM → Prop) (c5 : ∀ (b1 : ¬ B1), AC l (pI pg 101) (fcJ M Q4) 0 0 [.ref 36, .ref 17, .ref 30, .int (x)] SHF M) (Q7 : Int64 → aM → Int32 → aM → Prop) (c8 : ∀ (b1 : ¬ B1), ∀ (y4 : Int64), ∀ (M4 : aM), ∀ (e4 : M4.2.2 = M.2.2), ∀ (q4 : Q4 y4 M4), ∀ (h6 : ¬ (lg_cmp (y4) ((-1)) : Int32) = 0), AC l (pI pg 108) (fcI M4 (Q7 y4 M4)) 0 0 [.long (y4)] SHF M4) (Q9 : Int64 → aM → Int32 → aM → Int32 → aM → Prop) (c10 : ∀ (b1 : ¬ B1), ∀ (y4 : Int64), ∀ (M4 : aM), ∀ (e4 : M4.2.2 = M.2.2), ∀ (q4 : Q4 y4 M4), ∀ (h6 : ¬ (lg_cmp (y4) ((-1)) : Int32) = 0), ∀ (y7 : Int32), ∀ (M7 : aM), ∀ (e7 : M7.2.2 = M4.2.2), ∀ (q7 : (Q7 y4 M4) y7 M7), AC l (pI pg 109) (fcI (aset M7 0 9 (.int (y7))) (Q9 y4 M4 y7 M7)) 0 0 [.long (y4)] SHF (aset M7 0 9 (.int (y7)))) (r11 : ∀ (b1 : ¬ B1), ∀ (y4 : Int64), ∀ (M4 : aM), ∀ (e4 : M4.2.2 = M.2.2), ∀ (q4 : Q4 y4 M4), ∀ (h6 : ¬ (lg_cmp (y4) ((-1)) : Int32) = 0), ∀ (y7 : Int32), ∀ (M7 : aM), ∀ (e7 : M7.2.2 = M4.2.2), ∀ (q7 : (Q7 y4 M4) y7 M7), ∀ (y9 : Int32), ∀ (M9 : aM), ∀ (e9 : M9.2.2 = (aset M7 0 9 (.int (y7))).2.2), ∀ (q9 : (Q9 y4 M4 y7 M7) y9 M9), P (.inl (some (.int (y9)))) SHF M9) (r12 : ∀ (b1 : ¬ B1), ∀ (y4 : Int64), ∀ (M4 : aM), ∀ (e4 : M4.2.2 = M.2.2), ∀ (q4 : Q4 y4 M4), ∀ (h6 : (lg_cmp (y4) ((-1)) : Int32) = 0), P (.inl (some (.int (Int32.ofInt (-1))))) SHF M4) : AW l (pI pg 99) P (kc + 1) (ks + 6) 0 [(0, .ref 0), (1, .int (x))] [] SHF M := by
  refine AW.aload_n (dq rfl) rfl rfl ?_
  show AW l (pI pg 99) P (kc + 1) (ks + 6) 1 _ _ SHF _
  refine AW.iload_n (dq rfl) rfl ?_
  show AW l (pI pg 99) P (kc + 1) (ks + 6) 2 _ _ SHF _
  refine fw_tcV (as := [.int (x)]) (dq rfl) (pg_ok.2.2.1 99 _ _ _ _ rfl) rfl (by decide +kernel) rfl rfl (c2) (by decide +kernel) (x3) (fun b1 => ?_)
  show AW l (pI pg 99) P kc ks 5 [(0, .ref 0), (1, .int (x))] [] SHF _
  refine AW.aload_n (dq rfl) rfl rfl ?_
  show AW l (pI pg 99) P kc ks 6 _ _ SHF _
  refine fw_get (dq rfl) (pg_ok.2.1 99 _ _ _ _ rfl) rfl (v := .ref 36) (isTA_ok rfl (rgR_ok hJ rfl)) ?_
  show AW l (pI pg 99) P kc ks 9 _ _ SHF _
  refine AW.aload_n (dq rfl) rfl rfl ?_
  show AW l (pI pg 99) P kc ks 10 _ _ SHF _
  refine fw_get (dq rfl) (pg_ok.2.1 99 _ _ _ _ rfl) rfl (v := .ref 17) (isTA_ok rfl (rgR_ok hJ rfl)) ?_
  show AW l (pI pg 99) P kc ks 13 _ _ SHF _
  refine AW.aload_n (dq rfl) rfl rfl ?_
  show AW l (pI pg 99) P kc ks 14 _ _ SHF _
  refine fw_get (dq rfl) (pg_ok.2.1 99 _ _ _ _ rfl) rfl (v := .ref 30) (isTA_ok rfl (rgR_ok hJ rfl)) ?_
  show AW l (pI pg 99) P kc ks 17 _ _ SHF _
  refine AW.iload_n (dq rfl) rfl ?_
  show AW l (pI pg 99) P kc ks 18 _ _ SHF _
  refine fw_callVJ (as := [.ref 17, .ref 30, .int (x)]) (dq rfl) (pg_ok.2.2.1 99 _ _ _ _ rfl) rfl (by decide +kernel) rfl rfl (c5 b1) (fun y4 M4 e4 q4 => ?_)
  have hJ4 : ∀ e ∈ RRS.2, M4.2.2 e.1 e.2.1 = e.2.2 := fun e he => by rw [e4]; exact hJ e he
  show AW l (pI pg 99) P kc ks 21 [(0, .ref 0), (1, .int (x))] [.long (y4)] SHF _
  refine AW.lstore_n (dq rfl) (by decide +kernel) ?_
  show AW l (pI pg 99) P kc ks 22 [(2, .long (y4)), (0, .ref 0), (1, .int (x))] [] SHF _
  refine AW.lload_n (dq rfl) rfl ?_
  show AW l (pI pg 99) P kc ks 23 _ _ SHF _
  refine AW.ldc2 (dq rfl) (pg_ok.2.2.2.2.2.1 99 _ (-1) rfl) ?_
  show AW l (pI pg 99) P kc ks 26 _ _ SHF _
  refine AW.lcmp (dq rfl) ?_
  show AW l (pI pg 99) P kc ks 27 _ _ SHF _
  refine AW.if_ne (dq rfl) (tgt := 32) (by decide) (fun h6 => ?_) (fun h6 => ?_)
  · have _ := h6
    refine AW.aload_n (dq rfl) rfl rfl ?_
    show AW l (pI pg 99) P kc ks 33 _ _ SHF _
    refine AW.lload_n (dq rfl) rfl ?_
    show AW l (pI pg 99) P kc ks 34 _ _ SHF _
    refine fw_callSI (as := [.long (y4)]) (dq rfl) (pg_ok.2.2.1 99 _ _ _ _ rfl) (by decide +kernel) rfl rfl (c8 b1 y4 M4 e4 q4 h6) (fun y7 M7 e7 q7 => ?_)
    have hJ7 : ∀ e ∈ RRS.2, M7.2.2 e.1 e.2.1 = e.2.2 := fun e he => by rw [e7]; exact hJ4 e he
    show AW l (pI pg 99) P kc ks 37 [(2, .long (y4)), (0, .ref 0), (1, .int (x))] [.int (y7), .ref 0] SHF _
    refine fw_putI (dq rfl) (pg_ok.2.1 99 _ _ _ _ rfl) rfl rfl rfl ?_
    show AW l (pI pg 99) P kc ks 40 _ _ SHF _
    refine AW.lload_n (dq rfl) rfl ?_
    show AW l (pI pg 99) P kc ks 41 _ _ SHF _
    refine fw_callSI (as := [.long (y4)]) (dq rfl) (pg_ok.2.2.1 99 _ _ _ _ rfl) (by decide +kernel) rfl rfl (c10 b1 y4 M4 e4 q4 h6 y7 M7 e7 q7) (fun y9 M9 e9 q9 => ?_)
    have hJ9 : ∀ e ∈ RRS.2, M9.2.2 e.1 e.2.1 = e.2.2 := fun e he => by rw [e9]; exact hJ7 e he
    show AW l (pI pg 99) P kc ks 44 [(2, .long (y4)), (0, .ref 0), (1, .int (x))] [.int (y9)] SHF _
    refine AW.iret (dq rfl) rfl ?_
    exact r11 b1 y4 M4 e4 q4 h6 y7 M7 e7 q7 y9 M9 e9 q9
  · have _ := h6
    refine AW.iconst (dq rfl) ?_
    show AW l (pI pg 99) P kc ks 31 _ _ SHF _
    refine AW.iret (dq rfl) rfl ?_
    exact r12 b1 y4 M4 e4 q4 h6

theorem fiJ37_0 {l : aL} {P : aP} {kc ks : Nat} {f : Int64} {M : aM}  (hl0 : l.1.stackTraces = false) (k1 : AW l (pI pg 17) P kc ks 6 [(0, .ref 37), (1, .long (f)), (3, .int (Int32.ofInt 0)), (4, .int (Int32.ofNat 256))] [] SHF M) : AW l (pI pg 17) P kc ks 0 [(0, .ref 37), (1, .long (f))] [] SHF M := by
  refine AW.iconst (dq rfl) ?_
  show AW l (pI pg 17) P kc ks 1 _ _ SHF _
  refine AW.istore_n (dq rfl) (by decide +kernel) ?_
  show AW l (pI pg 17) P kc ks 2 [(3, .int (Int32.ofInt 0)), (0, .ref 37), (1, .long (f))] [] SHF _
  refine AW.aload_n (dq rfl) rfl rfl ?_
  show AW l (pI pg 17) P kc ks 3 _ _ SHF _
  refine AW.alen (dq rfl) rfl ?_
  show AW l (pI pg 17) P kc ks 4 _ _ SHF _
  refine AW.istore (dq rfl) (by decide +kernel) ?_
  show AW l (pI pg 17) P kc ks 6 [(4, .int (Int32.ofNat 256)), (3, .int (Int32.ofInt 0)), (0, .ref 37), (1, .long (f))] [] SHF _
  refine AW.drop (lv' := [(0, .ref 37), (1, .long (f)), (3, .int (Int32.ofInt 0)), (4, .int (Int32.ofNat 256))]) (List.forall_mem_cons.mpr ⟨List.mem_of_getElem? (i := 2) rfl, List.forall_mem_cons.mpr ⟨List.mem_of_getElem? (i := 3) rfl, List.forall_mem_cons.mpr ⟨List.mem_of_getElem? (i := 1) rfl, List.forall_mem_cons.mpr ⟨List.mem_of_getElem? (i := 0) rfl, fun _ h => absurd h List.not_mem_nil⟩⟩⟩⟩) ?_
  exact k1

theorem fiJ37_6 {l : aL} {P : aP} {kc ks : Nat} {i : Nat} {f : Int64} {M : aM}  (hl0 : l.1.stackTraces = false) (r2 : ∀ (h1 : (Int32.ofNat 256 : Int32) ≤ (nI i : Int32)), P (.inl none) SHF M) (o3 : ∀ (h1 : ¬ ((Int32.ofNat 256 : Int32) ≤ (nI i : Int32))), vp_in (nI i) 256) (k4 : ∀ (h1 : ¬ ((Int32.ofNat 256 : Int32) ≤ (nI i : Int32))), AW l (pI pg 17) P kc ks 6 [(0, .ref 37), (1, .long (f)), (3, .int ((nI i) + Int32.ofInt 1)), (4, .int (Int32.ofNat 256))] [] SHF (aset M 37 (nI i).toNatClampNeg (.long (f)))) : AW l (pI pg 17) P kc ks 6 [(0, .ref 37), (1, .long (f)), (3, .int (nI i)), (4, .int (Int32.ofNat 256))] [] SHF M := by
  refine AW.iload_n (dq rfl) rfl ?_
  show AW l (pI pg 17) P kc ks 7 _ _ SHF _
  refine AW.iload (dq rfl) rfl ?_
  show AW l (pI pg 17) P kc ks 9 _ _ SHF _
  refine AW.icmp_ge (dq rfl) (tgt := 22) (by decide) (fun h1 => ?_) (fun h1 => ?_)
  · have _ := h1
    refine AW.vret (dq rfl) rfl ?_
    exact r2 h1
  · have _ := h1
    refine AW.aload_n (dq rfl) rfl rfl ?_
    show AW l (pI pg 17) P kc ks 13 _ _ SHF _
    refine AW.iload_n (dq rfl) rfl ?_
    show AW l (pI pg 17) P kc ks 14 _ _ SHF _
    refine AW.lload_n (dq rfl) rfl ?_
    show AW l (pI pg 17) P kc ks 15 _ _ SHF _
    refine AW.last (by decide) (dq rfl) rfl (o3 h1) ?_
    show AW l (pI pg 17) P kc ks 16 _ _ SHF _
    refine AW.iinc (dq rfl) rfl (by decide +kernel) ?_
    show AW l (pI pg 17) P kc ks 19 [(3, .int ((nI i) + Int32.ofInt 1)), (0, .ref 37), (1, .long (f)), (4, .int (Int32.ofNat 256))] [] SHF _
    refine AW.goto (dq rfl) (tgt := 6) (by decide) ?_
    refine AW.drop (lv' := [(0, .ref 37), (1, .long (f)), (3, .int ((nI i) + Int32.ofInt 1)), (4, .int (Int32.ofNat 256))]) (List.forall_mem_cons.mpr ⟨List.mem_of_getElem? (i := 1) rfl, List.forall_mem_cons.mpr ⟨List.mem_of_getElem? (i := 2) rfl, List.forall_mem_cons.mpr ⟨List.mem_of_getElem? (i := 0) rfl, List.forall_mem_cons.mpr ⟨List.mem_of_getElem? (i := 3) rfl, fun _ h => absurd h List.not_mem_nil⟩⟩⟩⟩) ?_
    exact k4 h1

theorem mdy_0 {l : aL} {P : aP} {kc ks : Nat} {x : Int32} {M : aM} (hJ : ∀ e ∈ RM, M.2.2 e.1 e.2.1 = e.2.2) (hl0 : l.1.stackTraces = false) (Q1 : Int32 → aM → Prop) (c2 : AC l (pI pg 203) (fcI (aset M 58 0 (.int (Int32.ofInt 0))) Q1) 0 0 [.ref 58, .int (x), .int (Int32.ofInt 1)] SHF (aset M 58 0 (.int (Int32.ofInt 0)))) (Q4 : Int32 → aM → aM → Prop) (c5 : ∀ (y1 : Int32), ∀ (M1 : aM), ∀ (e1 : M1.2.2 = (aset M 58 0 (.int (Int32.ofInt 0))).2.2), ∀ (q1 : Q1 y1 M1), ∀ (h3 : ¬ (y1 : Int32) = 0), AC l (pI pg 204) (fcV M1 (Q4 y1 M1)) 0 0 [.ref 58, .int (Int32.ofInt 0)] SHF M1) (Q6 : Int32 → aM → aM → Int32 → aM → Prop) (c7 : ∀ (y1 : Int32), ∀ (M1 : aM), ∀ (e1 : M1.2.2 = (aset M 58 0 (.int (Int32.ofInt 0))).2.2), ∀ (q1 : Q1 y1 M1), ∀ (h3 : ¬ (y1 : Int32) = 0), ∀ (M4 : aM), ∀ (e4 : M4.2.2 = M1.2.2), ∀ (q4 : (Q4 y1 M1) M4), AC l (pI pg 208) (fcI M4 (Q6 y1 M1 M4)) 0 0 [.ref 58, .int (x)] SHF M4) (Q9 : Int32 → aM → aM → Int32 → aM → aM → Prop) (c10 : ∀ (y1 : Int32), ∀ (M1 : aM), ∀ (e1 : M1.2.2 = (aset M 58 0 (.int (Int32.ofInt 0))).2.2), ∀ (q1 : Q1 y1 M1), ∀ (h3 : ¬ (y1 : Int32) = 0), ∀ (M4 : aM), ∀ (e4 : M4.2.2 = M1.2.2), ∀ (q4 : (Q4 y1 M1) M4), ∀ (y6 : Int32), ∀ (M6 : aM), ∀ (e6 : M6.2.2 = M4.2.2), ∀ (q6 : (Q6 y1 M1 M4) y6 M6), ∀ (h8 : ¬ (y6 : Int32) = 0), AC l (pI pg 192) (fcV M6 (Q9 y1 M1 M4 y6 M6)) 0 0 [.ref 58, .ref 80, .ref 79] SHF M6) (r11 : ∀ (y1 : Int32), ∀ (M1 : aM), ∀ (e1 : M1.2.2 = (aset M 58 0 (.int (Int32.ofInt 0))).2.2), ∀ (q1 : Q1 y1 M1), ∀ (h3 : ¬ (y1 : Int32) = 0), ∀ (M4 : aM), ∀ (e4 : M4.2.2 = M1.2.2), ∀ (q4 : (Q4 y1 M1) M4), ∀ (y6 : Int32), ∀ (M6 : aM), ∀ (e6 : M6.2.2 = M4.2.2), ∀ (q6 : (Q6 y1 M1 M4) y6 M6), ∀ (h8 : ¬ (y6 : Int32) = 0), ∀ (M9 : aM), ∀ (e9 : M9.2.2 = M6.2.2), ∀ (q9 : (Q9 y1 M1 M4 y6 M6) M9), P (.inl (some (.int ((aset M9 58 45 (.int (Int32.ofInt 1))).1 58 46)))) SHF (aset M9 58 45 (.int (Int32.ofInt 1)))) (r12 : ∀ (y1 : Int32), ∀ (M1 : aM), ∀ (e1 : M1.2.2 = (aset M 58 0 (.int (Int32.ofInt 0))).2.2), ∀ (q1 : Q1 y1 M1), ∀ (h3 : ¬ (y1 : Int32) = 0), ∀ (M4 : aM), ∀ (e4 : M4.2.2 = M1.2.2), ∀ (q4 : (Q4 y1 M1) M4), ∀ (y6 : Int32), ∀ (M6 : aM), ∀ (e6 : M6.2.2 = M4.2.2), ∀ (q6 : (Q6 y1 M1 M4) y6 M6), ∀ (h8 : (y6 : Int32) = 0), P (.inl (some (.int (Int32.ofInt (-1))))) SHF M6) (r13 : ∀ (y1 : Int32), ∀ (M1 : aM), ∀ (e1 : M1.2.2 = (aset M 58 0 (.int (Int32.ofInt 0))).2.2), ∀ (q1 : Q1 y1 M1), ∀ (h3 : (y1 : Int32) = 0), P (.inl (some (.int (Int32.ofInt 0)))) SHF M1) : AW l (pI pg 202) P kc ks 0 [(0, .ref 58), (1, .int (x))] [] SHF M := by
  refine AW.aload_n (dq rfl) rfl rfl ?_
  show AW l (pI pg 202) P kc ks 1 _ _ SHF _
  refine AW.iconst (dq rfl) ?_
  show AW l (pI pg 202) P kc ks 2 _ _ SHF _
  refine fw_putI (dq rfl) (pg_ok.2.1 202 _ _ _ _ rfl) rfl rfl rfl ?_
  show AW l (pI pg 202) P kc ks 5 _ _ SHF _
  refine AW.aload_n (dq rfl) rfl rfl ?_
  show AW l (pI pg 202) P kc ks 6 _ _ SHF _
  refine AW.iload_n (dq rfl) rfl ?_
  show AW l (pI pg 202) P kc ks 7 _ _ SHF _
  refine AW.iconst (dq rfl) ?_
  show AW l (pI pg 202) P kc ks 8 _ _ SHF _
  refine fw_callVI (as := [.int (x), .int (Int32.ofInt 1)]) (dq rfl) (pg_ok.2.2.1 202 _ _ _ _ rfl) rfl (by decide +kernel) rfl rfl (c2) (fun y1 M1 e1 q1 => ?_)
  have hJ1 : ∀ e ∈ RM, M1.2.2 e.1 e.2.1 = e.2.2 := fun e he => by rw [e1]; exact hJ e he
  show AW l (pI pg 202) P kc ks 11 [(0, .ref 58), (1, .int (x))] [.int (y1)] SHF _
  refine AW.if_ne (dq rfl) (tgt := 16) (by decide) (fun h3 => ?_) (fun h3 => ?_)
  · have _ := h3
    refine AW.aload_n (dq rfl) rfl rfl ?_
    show AW l (pI pg 202) P kc ks 17 _ _ SHF _
    refine AW.iconst (dq rfl) ?_
    show AW l (pI pg 202) P kc ks 18 _ _ SHF _
    refine fw_callVV (as := [.int (Int32.ofInt 0)]) (dq rfl) (pg_ok.2.2.1 202 _ _ _ _ rfl) rfl (by decide +kernel) rfl rfl (c5 y1 M1 e1 q1 h3) (fun M4 e4 q4 => ?_)
    have hJ4 : ∀ e ∈ RM, M4.2.2 e.1 e.2.1 = e.2.2 := fun e he => by rw [e4]; exact hJ1 e he
    show AW l (pI pg 202) P kc ks 21 [(0, .ref 58), (1, .int (x))] [] SHF _
    refine AW.aload_n (dq rfl) rfl rfl ?_
    show AW l (pI pg 202) P kc ks 22 _ _ SHF _
    refine AW.iload_n (dq rfl) rfl ?_
    show AW l (pI pg 202) P kc ks 23 _ _ SHF _
    refine fw_callVI (as := [.int (x)]) (dq rfl) (pg_ok.2.2.1 202 _ _ _ _ rfl) rfl (by decide +kernel) rfl rfl (c7 y1 M1 e1 q1 h3 M4 e4 q4) (fun y6 M6 e6 q6 => ?_)
    have hJ6 : ∀ e ∈ RM, M6.2.2 e.1 e.2.1 = e.2.2 := fun e he => by rw [e6]; exact hJ4 e he
    show AW l (pI pg 202) P kc ks 26 [(0, .ref 58), (1, .int (x))] [.int (y6)] SHF _
    refine AW.if_ne (dq rfl) (tgt := 31) (by decide) (fun h8 => ?_) (fun h8 => ?_)
    · have _ := h8
      refine AW.aload_n (dq rfl) rfl rfl ?_
      show AW l (pI pg 202) P kc ks 32 _ _ SHF _
      refine AW.aload_n (dq rfl) rfl rfl ?_
      show AW l (pI pg 202) P kc ks 33 _ _ SHF _
      refine fw_get (dq rfl) (pg_ok.2.1 202 _ _ _ _ rfl) rfl (v := .ref 80) (isTA_ok rfl (rgR_ok hJ6 rfl)) ?_
      show AW l (pI pg 202) P kc ks 36 _ _ SHF _
      refine AW.aload_n (dq rfl) rfl rfl ?_
      show AW l (pI pg 202) P kc ks 37 _ _ SHF _
      refine fw_get (dq rfl) (pg_ok.2.1 202 _ _ _ _ rfl) rfl (v := .ref 79) (isTA_ok rfl (rgR_ok hJ6 rfl)) ?_
      show AW l (pI pg 202) P kc ks 40 _ _ SHF _
      refine fw_callVV (as := [.ref 80, .ref 79]) (dq rfl) (pg_ok.2.2.1 202 _ _ _ _ rfl) rfl (by decide +kernel) rfl rfl (c10 y1 M1 e1 q1 h3 M4 e4 q4 y6 M6 e6 q6 h8) (fun M9 e9 q9 => ?_)
      have hJ9 : ∀ e ∈ RM, M9.2.2 e.1 e.2.1 = e.2.2 := fun e he => by rw [e9]; exact hJ6 e he
      show AW l (pI pg 202) P kc ks 43 [(0, .ref 58), (1, .int (x))] [] SHF _
      refine AW.aload_n (dq rfl) rfl rfl ?_
      show AW l (pI pg 202) P kc ks 44 _ _ SHF _
      refine AW.iconst (dq rfl) ?_
      show AW l (pI pg 202) P kc ks 45 _ _ SHF _
      refine fw_putZ (dq rfl) (pg_ok.2.1 202 _ _ _ _ rfl) rfl rfl rfl (by decide) ?_
      show AW l (pI pg 202) P kc ks 48 _ _ SHF _
      refine AW.aload_n (dq rfl) rfl rfl ?_
      show AW l (pI pg 202) P kc ks 49 _ _ SHF _
      refine fw_get (dq rfl) (pg_ok.2.1 202 _ _ _ _ rfl) rfl (v := .int ((aset M9 58 45 (.int (Int32.ofInt 1))).1 58 46)) rfl ?_
      show AW l (pI pg 202) P kc ks 52 _ _ SHF _
      refine AW.iret (dq rfl) rfl ?_
      exact r11 y1 M1 e1 q1 h3 M4 e4 q4 y6 M6 e6 q6 h8 M9 e9 q9
    · have _ := h8
      refine AW.iconst (dq rfl) ?_
      show AW l (pI pg 202) P kc ks 30 _ _ SHF _
      refine AW.iret (dq rfl) rfl ?_
      exact r12 y1 M1 e1 q1 h3 M4 e4 q4 y6 M6 e6 q6 h8
  · have _ := h3
    refine AW.iconst (dq rfl) ?_
    show AW l (pI pg 202) P kc ks 15 _ _ SHF _
    refine AW.iret (dq rfl) rfl ?_
    exact r13 y1 M1 e1 q1 h3

theorem cop80_0 {l : aL} {P : aP} {kc ks : Nat} {M : aM} (hJ : ∀ e ∈ RM, M.2.2 e.1 e.2.1 = e.2.2) (hl0 : l.1.stackTraces = false) (k1 : AW l (pI pg 192) P kc ks 2 [(3, .int (Int32.ofInt 0)), (1, .ref 80), (2, .ref 79)] [] SHF M) : AW l (pI pg 192) P kc ks 0 [(0, .ref 58), (1, .ref 80), (2, .ref 79)] [] SHF M := by
  refine AW.iconst (dq rfl) ?_
  show AW l (pI pg 192) P kc ks 1 _ _ SHF _
  refine AW.istore_n (dq rfl) (by decide +kernel) ?_
  show AW l (pI pg 192) P kc ks 2 [(3, .int (Int32.ofInt 0)), (0, .ref 58), (1, .ref 80), (2, .ref 79)] [] SHF _
  refine AW.drop (lv' := [(3, .int (Int32.ofInt 0)), (1, .ref 80), (2, .ref 79)]) (List.forall_mem_cons.mpr ⟨List.mem_of_getElem? (i := 0) rfl, List.forall_mem_cons.mpr ⟨List.mem_of_getElem? (i := 2) rfl, List.forall_mem_cons.mpr ⟨List.mem_of_getElem? (i := 3) rfl, fun _ h => absurd h List.not_mem_nil⟩⟩⟩) ?_
  exact k1

theorem cop80_2 {l : aL} {P : aP} {kc ks : Nat} {i : Nat} {M : aM} (hJ : ∀ e ∈ RM, M.2.2 e.1 e.2.1 = e.2.2) (hl0 : l.1.stackTraces = false) (r2 : ∀ (h1 : (Int32.ofNat 8 : Int32) ≤ (nI i : Int32)), P (.inl none) SHF M) (o3 : ∀ (h1 : ¬ ((Int32.ofNat 8 : Int32) ≤ (nI i : Int32))), vp_in (nI i) 8) (k4 : ∀ (h1 : ¬ ((Int32.ofNat 8 : Int32) ≤ (nI i : Int32))), AW l (pI pg 192) P kc ks 2 [(3, .int ((nI i) + Int32.ofInt 1)), (1, .ref 80), (2, .ref 79)] [] SHF (aset M 79 (nI i).toNatClampNeg (.int (M.1 80 (nI i).toNatClampNeg)))) : AW l (pI pg 192) P kc ks 2 [(3, .int (nI i)), (1, .ref 80), (2, .ref 79)] [] SHF M := by
  refine AW.iload_n (dq rfl) rfl ?_
  show AW l (pI pg 192) P kc ks 3 _ _ SHF _
  refine AW.aload_n (dq rfl) rfl rfl ?_
  show AW l (pI pg 192) P kc ks 4 _ _ SHF _
  refine AW.alen (dq rfl) rfl ?_
  show AW l (pI pg 192) P kc ks 5 _ _ SHF _
  refine AW.icmp_ge (dq rfl) (tgt := 20) (by decide) (fun h1 => ?_) (fun h1 => ?_)
  · have _ := h1
    refine AW.vret (dq rfl) rfl ?_
    exact r2 h1
  · have _ := h1
    refine AW.aload_n (dq rfl) rfl rfl ?_
    show AW l (pI pg 192) P kc ks 9 _ _ SHF _
    refine AW.iload_n (dq rfl) rfl ?_
    show AW l (pI pg 192) P kc ks 10 _ _ SHF _
    refine AW.aload_n (dq rfl) rfl rfl ?_
    show AW l (pI pg 192) P kc ks 11 _ _ SHF _
    refine AW.iload_n (dq rfl) rfl ?_
    show AW l (pI pg 192) P kc ks 12 _ _ SHF _
    refine AW.iald (dq rfl) rfl (o3 h1) ?_
    show AW l (pI pg 192) P kc ks 13 _ _ SHF _
    refine AW.iast (dq rfl) rfl (o3 h1) ?_
    show AW l (pI pg 192) P kc ks 14 _ _ SHF _
    refine AW.iinc (dq rfl) rfl (by decide +kernel) ?_
    show AW l (pI pg 192) P kc ks 17 [(3, .int ((nI i) + Int32.ofInt 1)), (1, .ref 80), (2, .ref 79)] [] SHF _
    refine AW.goto (dq rfl) (tgt := 2) (by decide) ?_
    refine AW.drop (lv' := [(3, .int ((nI i) + Int32.ofInt 1)), (1, .ref 80), (2, .ref 79)]) (List.forall_mem_cons.mpr ⟨List.mem_of_getElem? (i := 0) rfl, List.forall_mem_cons.mpr ⟨List.mem_of_getElem? (i := 1) rfl, List.forall_mem_cons.mpr ⟨List.mem_of_getElem? (i := 2) rfl, fun _ h => absurd h List.not_mem_nil⟩⟩⟩) ?_
    exact k4 h1

