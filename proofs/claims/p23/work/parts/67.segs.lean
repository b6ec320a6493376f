/-! stretches of 'is', printed by wip/gen/segs_m.py -/
def pvJ (M : aM) (v : Int64) : aP := fcJ M (fun y M' => v = y ∧ M = M')
theorem pvJ_of {M : aM} {v : Int64} : pvJ M v (.inl (some (.long v))) SHF M := ⟨rfl, rfl, _, rfl, rfl, rfl⟩
theorem spl_person {l : aL} {P : aP} {kc ks : Nat} {M : aM}   (r4 : P (.inl (some (.long (((((((((((((Int8.ofInt 112).toInt32).toInt64) - (96)) <<< (((Int8.ofInt 10).toInt32).toInt64 &&& 63)) ||| (((((Int8.ofInt 101).toInt32).toInt64) - (96)) <<< ((Int32.ofInt 5).toInt64 &&& 63))) ||| ((((Int8.ofInt 114).toInt32) - ((Int8.ofInt 96).toInt32)).toInt64)) <<< ((Int32.ofInt 5).toInt64 &&& 63)) ||| ((((Int8.ofInt 115).toInt32) - ((Int8.ofInt 96).toInt32)).toInt64)) <<< ((Int32.ofInt 5).toInt64 &&& 63)) ||| ((((Int8.ofInt 111).toInt32) - ((Int8.ofInt 96).toInt32)).toInt64)) <<< ((Int32.ofInt 5).toInt64 &&& 63)) ||| ((((Int8.ofInt 110).toInt32) - ((Int8.ofInt 96).toInt32)).toInt64))))) SHF M) : AW l (pI pg 183) P kc ks 0 [(0, .int ((Int8.ofInt 112).toInt32)), (1, .int ((Int8.ofInt 101).toInt32)), (2, .int ((Int8.ofInt 114).toInt32)), (3, .int ((Int8.ofInt 115).toInt32)), (4, .int ((Int8.ofInt 111).toInt32)), (5, .int ((Int8.ofInt 110).toInt32))] [] SHF M := by
  refine AW.iload_n (dq rfl) rfl ?_
  show AW l (pI pg 183) P kc ks 1 _ _ SHF _
  refine AW.i2l (dq rfl) ?_
  show AW l (pI pg 183) P kc ks 2 _ _ SHF _
  refine AW.ldc2 (dq rfl) (pg_ok.2.2.2.2.2.1 183 _ 96 rfl) ?_
  show AW l (pI pg 183) P kc ks 5 _ _ SHF _
  refine AW.lsub (dq rfl) ?_
  show AW l (pI pg 183) P kc ks 6 _ _ SHF _
  refine AW.bipush (dq rfl) ?_
  show AW l (pI pg 183) P kc ks 8 _ _ SHF _
  refine AW.lshl (dq rfl) ?_
  show AW l (pI pg 183) P kc ks 9 _ _ SHF _
  refine AW.iload_n (dq rfl) rfl ?_
  show AW l (pI pg 183) P kc ks 10 _ _ SHF _
  refine AW.i2l (dq rfl) ?_
  show AW l (pI pg 183) P kc ks 11 _ _ SHF _
  refine AW.ldc2 (dq rfl) (pg_ok.2.2.2.2.2.1 183 _ 96 rfl) ?_
  show AW l (pI pg 183) P kc ks 14 _ _ SHF _
  refine AW.lsub (dq rfl) ?_
  show AW l (pI pg 183) P kc ks 15 _ _ SHF _
  refine AW.iconst (dq rfl) ?_
  show AW l (pI pg 183) P kc ks 16 _ _ SHF _
  refine AW.lshl (dq rfl) ?_
  show AW l (pI pg 183) P kc ks 17 _ _ SHF _
  refine AW.lor (dq rfl) ?_
  show AW l (pI pg 183) P kc ks 18 _ _ SHF _
  refine AW.iload_n (dq rfl) rfl ?_
  show AW l (pI pg 183) P kc ks 19 _ _ SHF _
  refine AW.bipush (dq rfl) ?_
  show AW l (pI pg 183) P kc ks 21 _ _ SHF _
  refine AW.isub (dq rfl) ?_
  show AW l (pI pg 183) P kc ks 22 _ _ SHF _
  refine AW.i2l (dq rfl) ?_
  show AW l (pI pg 183) P kc ks 23 _ _ SHF _
  refine AW.lor (dq rfl) ?_
  show AW l (pI pg 183) P kc ks 24 _ _ SHF _
  refine AW.lstore (dq rfl) (by decide +kernel) ?_
  show AW l (pI pg 183) P kc ks 26 [(6, .long (((((((Int8.ofInt 112).toInt32).toInt64) - (96)) <<< (((Int8.ofInt 10).toInt32).toInt64 &&& 63)) ||| (((((Int8.ofInt 101).toInt32).toInt64) - (96)) <<< ((Int32.ofInt 5).toInt64 &&& 63))) ||| ((((Int8.ofInt 114).toInt32) - ((Int8.ofInt 96).toInt32)).toInt64))), (0, .int ((Int8.ofInt 112).toInt32)), (1, .int ((Int8.ofInt 101).toInt32)), (2, .int ((Int8.ofInt 114).toInt32)), (3, .int ((Int8.ofInt 115).toInt32)), (4, .int ((Int8.ofInt 111).toInt32)), (5, .int ((Int8.ofInt 110).toInt32))] [] SHF _
  refine AW.iload_n (dq rfl) rfl ?_
  show AW l (pI pg 183) P kc ks 27 _ _ SHF _
  refine AW.if_eq (dq rfl) (tgt := 42) (by decide) (fun h1 => ?_) (fun h1 => ?_)
  · exact absurd h1 (by decide)
  refine AW.lload (dq rfl) rfl ?_
  show AW l (pI pg 183) P kc ks 32 _ _ SHF _
  refine AW.iconst (dq rfl) ?_
  show AW l (pI pg 183) P kc ks 33 _ _ SHF _
  refine AW.lshl (dq rfl) ?_
  show AW l (pI pg 183) P kc ks 34 _ _ SHF _
  refine AW.iload_n (dq rfl) rfl ?_
  show AW l (pI pg 183) P kc ks 35 _ _ SHF _
  refine AW.bipush (dq rfl) ?_
  show AW l (pI pg 183) P kc ks 37 _ _ SHF _
  refine AW.isub (dq rfl) ?_
  show AW l (pI pg 183) P kc ks 38 _ _ SHF _
  refine AW.i2l (dq rfl) ?_
  show AW l (pI pg 183) P kc ks 39 _ _ SHF _
  refine AW.lor (dq rfl) ?_
  show AW l (pI pg 183) P kc ks 40 _ _ SHF _
  refine AW.lstore (dq rfl) (by decide +kernel) ?_
  show AW l (pI pg 183) P kc ks 42 [(6, .long (((((((((Int8.ofInt 112).toInt32).toInt64) - (96)) <<< (((Int8.ofInt 10).toInt32).toInt64 &&& 63)) ||| (((((Int8.ofInt 101).toInt32).toInt64) - (96)) <<< ((Int32.ofInt 5).toInt64 &&& 63))) ||| ((((Int8.ofInt 114).toInt32) - ((Int8.ofInt 96).toInt32)).toInt64)) <<< ((Int32.ofInt 5).toInt64 &&& 63)) ||| ((((Int8.ofInt 115).toInt32) - ((Int8.ofInt 96).toInt32)).toInt64))), (0, .int ((Int8.ofInt 112).toInt32)), (1, .int ((Int8.ofInt 101).toInt32)), (2, .int ((Int8.ofInt 114).toInt32)), (3, .int ((Int8.ofInt 115).toInt32)), (4, .int ((Int8.ofInt 111).toInt32)), (5, .int ((Int8.ofInt 110).toInt32))] [] SHF _
  refine AW.iload (dq rfl) rfl ?_
  show AW l (pI pg 183) P kc ks 44 _ _ SHF _
  refine AW.if_eq (dq rfl) (tgt := 60) (by decide) (fun h2 => ?_) (fun h2 => ?_)
  · exact absurd h2 (by decide)
  refine AW.lload (dq rfl) rfl ?_
  show AW l (pI pg 183) P kc ks 49 _ _ SHF _
  refine AW.iconst (dq rfl) ?_
  show AW l (pI pg 183) P kc ks 50 _ _ SHF _
  refine AW.lshl (dq rfl) ?_
  show AW l (pI pg 183) P kc ks 51 _ _ SHF _
  refine AW.iload (dq rfl) rfl ?_
  show AW l (pI pg 183) P kc ks 53 _ _ SHF _
  refine AW.bipush (dq rfl) ?_
  show AW l (pI pg 183) P kc ks 55 _ _ SHF _
  refine AW.isub (dq rfl) ?_
  show AW l (pI pg 183) P kc ks 56 _ _ SHF _
  refine AW.i2l (dq rfl) ?_
  show AW l (pI pg 183) P kc ks 57 _ _ SHF _
  refine AW.lor (dq rfl) ?_
  show AW l (pI pg 183) P kc ks 58 _ _ SHF _
  refine AW.lstore (dq rfl) (by decide +kernel) ?_
  show AW l (pI pg 183) P kc ks 60 [(6, .long (((((((((((Int8.ofInt 112).toInt32).toInt64) - (96)) <<< (((Int8.ofInt 10).toInt32).toInt64 &&& 63)) ||| (((((Int8.ofInt 101).toInt32).toInt64) - (96)) <<< ((Int32.ofInt 5).toInt64 &&& 63))) ||| ((((Int8.ofInt 114).toInt32) - ((Int8.ofInt 96).toInt32)).toInt64)) <<< ((Int32.ofInt 5).toInt64 &&& 63)) ||| ((((Int8.ofInt 115).toInt32) - ((Int8.ofInt 96).toInt32)).toInt64)) <<< ((Int32.ofInt 5).toInt64 &&& 63)) ||| ((((Int8.ofInt 111).toInt32) - ((Int8.ofInt 96).toInt32)).toInt64))), (0, .int ((Int8.ofInt 112).toInt32)), (1, .int ((Int8.ofInt 101).toInt32)), (2, .int ((Int8.ofInt 114).toInt32)), (3, .int ((Int8.ofInt 115).toInt32)), (4, .int ((Int8.ofInt 111).toInt32)), (5, .int ((Int8.ofInt 110).toInt32))] [] SHF _
  refine AW.iload (dq rfl) rfl ?_
  show AW l (pI pg 183) P kc ks 62 _ _ SHF _
  refine AW.if_eq (dq rfl) (tgt := 78) (by decide) (fun h3 => ?_) (fun h3 => ?_)
  · exact absurd h3 (by decide)
  refine AW.lload (dq rfl) rfl ?_
  show AW l (pI pg 183) P kc ks 67 _ _ SHF _
  refine AW.iconst (dq rfl) ?_
  show AW l (pI pg 183) P kc ks 68 _ _ SHF _
  refine AW.lshl (dq rfl) ?_
  show AW l (pI pg 183) P kc ks 69 _ _ SHF _
  refine AW.iload (dq rfl) rfl ?_
  show AW l (pI pg 183) P kc ks 71 _ _ SHF _
  refine AW.bipush (dq rfl) ?_
  show AW l (pI pg 183) P kc ks 73 _ _ SHF _
  refine AW.isub (dq rfl) ?_
  show AW l (pI pg 183) P kc ks 74 _ _ SHF _
  refine AW.i2l (dq rfl) ?_
  show AW l (pI pg 183) P kc ks 75 _ _ SHF _
  refine AW.lor (dq rfl) ?_
  show AW l (pI pg 183) P kc ks 76 _ _ SHF _
  refine AW.lstore (dq rfl) (by decide +kernel) ?_
  show AW l (pI pg 183) P kc ks 78 [(6, .long (((((((((((((Int8.ofInt 112).toInt32).toInt64) - (96)) <<< (((Int8.ofInt 10).toInt32).toInt64 &&& 63)) ||| (((((Int8.ofInt 101).toInt32).toInt64) - (96)) <<< ((Int32.ofInt 5).toInt64 &&& 63))) ||| ((((Int8.ofInt 114).toInt32) - ((Int8.ofInt 96).toInt32)).toInt64)) <<< ((Int32.ofInt 5).toInt64 &&& 63)) ||| ((((Int8.ofInt 115).toInt32) - ((Int8.ofInt 96).toInt32)).toInt64)) <<< ((Int32.ofInt 5).toInt64 &&& 63)) ||| ((((Int8.ofInt 111).toInt32) - ((Int8.ofInt 96).toInt32)).toInt64)) <<< ((Int32.ofInt 5).toInt64 &&& 63)) ||| ((((Int8.ofInt 110).toInt32) - ((Int8.ofInt 96).toInt32)).toInt64))), (0, .int ((Int8.ofInt 112).toInt32)), (1, .int ((Int8.ofInt 101).toInt32)), (2, .int ((Int8.ofInt 114).toInt32)), (3, .int ((Int8.ofInt 115).toInt32)), (4, .int ((Int8.ofInt 111).toInt32)), (5, .int ((Int8.ofInt 110).toInt32))] [] SHF _
  refine AW.lload (dq rfl) rfl ?_
  show AW l (pI pg 183) P kc ks 80 _ _ SHF _
  refine AW.lret (dq rfl) rfl ?_
  exact r4

theorem spv_person : (((((((((((((Int8.ofInt 112).toInt32).toInt64) - (96)) <<< (((Int8.ofInt 10).toInt32).toInt64 &&& 63)) ||| (((((Int8.ofInt 101).toInt32).toInt64) - (96)) <<< ((Int32.ofInt 5).toInt64 &&& 63))) ||| ((((Int8.ofInt 114).toInt32) - ((Int8.ofInt 96).toInt32)).toInt64)) <<< ((Int32.ofInt 5).toInt64 &&& 63)) ||| ((((Int8.ofInt 115).toInt32) - ((Int8.ofInt 96).toInt32)).toInt64)) <<< ((Int32.ofInt 5).toInt64 &&& 63)) ||| ((((Int8.ofInt 111).toInt32) - ((Int8.ofInt 96).toInt32)).toInt64)) <<< ((Int32.ofInt 5).toInt64 &&& 63)) ||| ((((Int8.ofInt 110).toInt32) - ((Int8.ofInt 96).toInt32)).toInt64)) = lN 542723566 := by decide
theorem spl_person_c {l : aL} (hl0 : l.1.stackTraces = false) {M : aM} : AC l (pI pg 183) (pvJ M (lN 542723566)) 0 0 [.int ((Int8.ofInt 112).toInt32), .int ((Int8.ofInt 101).toInt32), .int ((Int8.ofInt 114).toInt32), .int ((Int8.ofInt 115).toInt32), .int ((Int8.ofInt 111).toInt32), .int ((Int8.ofInt 110).toInt32)] SHF M := by
  refine fw_of hl0 ⟨by decide +kernel, by decide +kernel, by decide +kernel⟩ rfl ?_
  refine spl_person ?_
  rw [spv_person]
  exact pvJ_of

theorem spl_work {l : aL} {P : aP} {kc ks : Nat} {M : aM}   (r4 : P (.inl (some (.long (((((((((Int8.ofInt 119).toInt32).toInt64) - (96)) <<< (((Int8.ofInt 10).toInt32).toInt64 &&& 63)) ||| (((((Int8.ofInt 111).toInt32).toInt64) - (96)) <<< ((Int32.ofInt 5).toInt64 &&& 63))) ||| ((((Int8.ofInt 114).toInt32) - ((Int8.ofInt 96).toInt32)).toInt64)) <<< ((Int32.ofInt 5).toInt64 &&& 63)) ||| ((((Int8.ofInt 107).toInt32) - ((Int8.ofInt 96).toInt32)).toInt64))))) SHF M) : AW l (pI pg 183) P kc ks 0 [(0, .int ((Int8.ofInt 119).toInt32)), (1, .int ((Int8.ofInt 111).toInt32)), (2, .int ((Int8.ofInt 114).toInt32)), (3, .int ((Int8.ofInt 107).toInt32)), (4, .int (Int32.ofInt 0)), (5, .int (Int32.ofInt 0))] [] SHF M := by
  refine AW.iload_n (dq rfl) rfl ?_
  show AW l (pI pg 183) P kc ks 1 _ _ SHF _
  refine AW.i2l (dq rfl) ?_
  show AW l (pI pg 183) P kc ks 2 _ _ SHF _
  refine AW.ldc2 (dq rfl) (pg_ok.2.2.2.2.2.1 183 _ 96 rfl) ?_
  show AW l (pI pg 183) P kc ks 5 _ _ SHF _
  refine AW.lsub (dq rfl) ?_
  show AW l (pI pg 183) P kc ks 6 _ _ SHF _
  refine AW.bipush (dq rfl) ?_
  show AW l (pI pg 183) P kc ks 8 _ _ SHF _
  refine AW.lshl (dq rfl) ?_
  show AW l (pI pg 183) P kc ks 9 _ _ SHF _
  refine AW.iload_n (dq rfl) rfl ?_
  show AW l (pI pg 183) P kc ks 10 _ _ SHF _
  refine AW.i2l (dq rfl) ?_
  show AW l (pI pg 183) P kc ks 11 _ _ SHF _
  refine AW.ldc2 (dq rfl) (pg_ok.2.2.2.2.2.1 183 _ 96 rfl) ?_
  show AW l (pI pg 183) P kc ks 14 _ _ SHF _
  refine AW.lsub (dq rfl) ?_
  show AW l (pI pg 183) P kc ks 15 _ _ SHF _
  refine AW.iconst (dq rfl) ?_
  show AW l (pI pg 183) P kc ks 16 _ _ SHF _
  refine AW.lshl (dq rfl) ?_
  show AW l (pI pg 183) P kc ks 17 _ _ SHF _
  refine AW.lor (dq rfl) ?_
  show AW l (pI pg 183) P kc ks 18 _ _ SHF _
  refine AW.iload_n (dq rfl) rfl ?_
  show AW l (pI pg 183) P kc ks 19 _ _ SHF _
  refine AW.bipush (dq rfl) ?_
  show AW l (pI pg 183) P kc ks 21 _ _ SHF _
  refine AW.isub (dq rfl) ?_
  show AW l (pI pg 183) P kc ks 22 _ _ SHF _
  refine AW.i2l (dq rfl) ?_
  show AW l (pI pg 183) P kc ks 23 _ _ SHF _
  refine AW.lor (dq rfl) ?_
  show AW l (pI pg 183) P kc ks 24 _ _ SHF _
  refine AW.lstore (dq rfl) (by decide +kernel) ?_
  show AW l (pI pg 183) P kc ks 26 [(6, .long (((((((Int8.ofInt 119).toInt32).toInt64) - (96)) <<< (((Int8.ofInt 10).toInt32).toInt64 &&& 63)) ||| (((((Int8.ofInt 111).toInt32).toInt64) - (96)) <<< ((Int32.ofInt 5).toInt64 &&& 63))) ||| ((((Int8.ofInt 114).toInt32) - ((Int8.ofInt 96).toInt32)).toInt64))), (0, .int ((Int8.ofInt 119).toInt32)), (1, .int ((Int8.ofInt 111).toInt32)), (2, .int ((Int8.ofInt 114).toInt32)), (3, .int ((Int8.ofInt 107).toInt32)), (4, .int (Int32.ofInt 0)), (5, .int (Int32.ofInt 0))] [] SHF _
  refine AW.iload_n (dq rfl) rfl ?_
  show AW l (pI pg 183) P kc ks 27 _ _ SHF _
  refine AW.if_eq (dq rfl) (tgt := 42) (by decide) (fun h1 => ?_) (fun h1 => ?_)
  · exact absurd h1 (by decide)
  refine AW.lload (dq rfl) rfl ?_
  show AW l (pI pg 183) P kc ks 32 _ _ SHF _
  refine AW.iconst (dq rfl) ?_
  show AW l (pI pg 183) P kc ks 33 _ _ SHF _
  refine AW.lshl (dq rfl) ?_
  show AW l (pI pg 183) P kc ks 34 _ _ SHF _
  refine AW.iload_n (dq rfl) rfl ?_
  show AW l (pI pg 183) P kc ks 35 _ _ SHF _
  refine AW.bipush (dq rfl) ?_
  show AW l (pI pg 183) P kc ks 37 _ _ SHF _
  refine AW.isub (dq rfl) ?_
  show AW l (pI pg 183) P kc ks 38 _ _ SHF _
  refine AW.i2l (dq rfl) ?_
  show AW l (pI pg 183) P kc ks 39 _ _ SHF _
  refine AW.lor (dq rfl) ?_
  show AW l (pI pg 183) P kc ks 40 _ _ SHF _
  refine AW.lstore (dq rfl) (by decide +kernel) ?_
  show AW l (pI pg 183) P kc ks 42 [(6, .long (((((((((Int8.ofInt 119).toInt32).toInt64) - (96)) <<< (((Int8.ofInt 10).toInt32).toInt64 &&& 63)) ||| (((((Int8.ofInt 111).toInt32).toInt64) - (96)) <<< ((Int32.ofInt 5).toInt64 &&& 63))) ||| ((((Int8.ofInt 114).toInt32) - ((Int8.ofInt 96).toInt32)).toInt64)) <<< ((Int32.ofInt 5).toInt64 &&& 63)) ||| ((((Int8.ofInt 107).toInt32) - ((Int8.ofInt 96).toInt32)).toInt64))), (0, .int ((Int8.ofInt 119).toInt32)), (1, .int ((Int8.ofInt 111).toInt32)), (2, .int ((Int8.ofInt 114).toInt32)), (3, .int ((Int8.ofInt 107).toInt32)), (4, .int (Int32.ofInt 0)), (5, .int (Int32.ofInt 0))] [] SHF _
  refine AW.iload (dq rfl) rfl ?_
  show AW l (pI pg 183) P kc ks 44 _ _ SHF _
  refine AW.if_eq (dq rfl) (tgt := 60) (by decide) (fun h2 => ?_) (fun h2 => ?_)
  rotate_left
  · exact absurd h2 (by decide)
  refine AW.iload (dq rfl) rfl ?_
  show AW l (pI pg 183) P kc ks 62 _ _ SHF _
  refine AW.if_eq (dq rfl) (tgt := 78) (by decide) (fun h3 => ?_) (fun h3 => ?_)
  rotate_left
  · exact absurd h3 (by decide)
  refine AW.lload (dq rfl) rfl ?_
  show AW l (pI pg 183) P kc ks 80 _ _ SHF _
  refine AW.lret (dq rfl) rfl ?_
  exact r4

theorem spv_work : (((((((((Int8.ofInt 119).toInt32).toInt64) - (96)) <<< (((Int8.ofInt 10).toInt32).toInt64 &&& 63)) ||| (((((Int8.ofInt 111).toInt32).toInt64) - (96)) <<< ((Int32.ofInt 5).toInt64 &&& 63))) ||| ((((Int8.ofInt 114).toInt32) - ((Int8.ofInt 96).toInt32)).toInt64)) <<< ((Int32.ofInt 5).toInt64 &&& 63)) ||| ((((Int8.ofInt 107).toInt32) - ((Int8.ofInt 96).toInt32)).toInt64)) = lN 769611 := by decide
theorem spl_work_c {l : aL} (hl0 : l.1.stackTraces = false) {M : aM} : AC l (pI pg 183) (pvJ M (lN 769611)) 0 0 [.int ((Int8.ofInt 119).toInt32), .int ((Int8.ofInt 111).toInt32), .int ((Int8.ofInt 114).toInt32), .int ((Int8.ofInt 107).toInt32), .int (Int32.ofInt 0), .int (Int32.ofInt 0)] SHF M := by
  refine fw_of hl0 ⟨by decide +kernel, by decide +kernel, by decide +kernel⟩ rfl ?_
  refine spl_work ?_
  rw [spv_work]
  exact pvJ_of

theorem spl_can {l : aL} {P : aP} {kc ks : Nat} {M : aM}   (r4 : P (.inl (some (.long (((((((Int8.ofInt 99).toInt32).toInt64) - (96)) <<< (((Int8.ofInt 10).toInt32).toInt64 &&& 63)) ||| (((((Int8.ofInt 97).toInt32).toInt64) - (96)) <<< ((Int32.ofInt 5).toInt64 &&& 63))) ||| ((((Int8.ofInt 110).toInt32) - ((Int8.ofInt 96).toInt32)).toInt64))))) SHF M) : AW l (pI pg 183) P kc ks 0 [(0, .int ((Int8.ofInt 99).toInt32)), (1, .int ((Int8.ofInt 97).toInt32)), (2, .int ((Int8.ofInt 110).toInt32)), (3, .int (Int32.ofInt 0)), (4, .int (Int32.ofInt 0)), (5, .int (Int32.ofInt 0))] [] SHF M := by
  refine AW.iload_n (dq rfl) rfl ?_
  show AW l (pI pg 183) P kc ks 1 _ _ SHF _
  refine AW.i2l (dq rfl) ?_
  show AW l (pI pg 183) P kc ks 2 _ _ SHF _
  refine AW.ldc2 (dq rfl) (pg_ok.2.2.2.2.2.1 183 _ 96 rfl) ?_
  show AW l (pI pg 183) P kc ks 5 _ _ SHF _
  refine AW.lsub (dq rfl) ?_
  show AW l (pI pg 183) P kc ks 6 _ _ SHF _
  refine AW.bipush (dq rfl) ?_
  show AW l (pI pg 183) P kc ks 8 _ _ SHF _
  refine AW.lshl (dq rfl) ?_
  show AW l (pI pg 183) P kc ks 9 _ _ SHF _
  refine AW.iload_n (dq rfl) rfl ?_
  show AW l (pI pg 183) P kc ks 10 _ _ SHF _
  refine AW.i2l (dq rfl) ?_
  show AW l (pI pg 183) P kc ks 11 _ _ SHF _
  refine AW.ldc2 (dq rfl) (pg_ok.2.2.2.2.2.1 183 _ 96 rfl) ?_
  show AW l (pI pg 183) P kc ks 14 _ _ SHF _
  refine AW.lsub (dq rfl) ?_
  show AW l (pI pg 183) P kc ks 15 _ _ SHF _
  refine AW.iconst (dq rfl) ?_
  show AW l (pI pg 183) P kc ks 16 _ _ SHF _
  refine AW.lshl (dq rfl) ?_
  show AW l (pI pg 183) P kc ks 17 _ _ SHF _
  refine AW.lor (dq rfl) ?_
  show AW l (pI pg 183) P kc ks 18 _ _ SHF _
  refine AW.iload_n (dq rfl) rfl ?_
  show AW l (pI pg 183) P kc ks 19 _ _ SHF _
  refine AW.bipush (dq rfl) ?_
  show AW l (pI pg 183) P kc ks 21 _ _ SHF _
  refine AW.isub (dq rfl) ?_
  show AW l (pI pg 183) P kc ks 22 _ _ SHF _
  refine AW.i2l (dq rfl) ?_
  show AW l (pI pg 183) P kc ks 23 _ _ SHF _
  refine AW.lor (dq rfl) ?_
  show AW l (pI pg 183) P kc ks 24 _ _ SHF _
  refine AW.lstore (dq rfl) (by decide +kernel) ?_
  show AW l (pI pg 183) P kc ks 26 [(6, .long (((((((Int8.ofInt 99).toInt32).toInt64) - (96)) <<< (((Int8.ofInt 10).toInt32).toInt64 &&& 63)) ||| (((((Int8.ofInt 97).toInt32).toInt64) - (96)) <<< ((Int32.ofInt 5).toInt64 &&& 63))) ||| ((((Int8.ofInt 110).toInt32) - ((Int8.ofInt 96).toInt32)).toInt64))), (0, .int ((Int8.ofInt 99).toInt32)), (1, .int ((Int8.ofInt 97).toInt32)), (2, .int ((Int8.ofInt 110).toInt32)), (3, .int (Int32.ofInt 0)), (4, .int (Int32.ofInt 0)), (5, .int (Int32.ofInt 0))] [] SHF _
  refine AW.iload_n (dq rfl) rfl ?_
  show AW l (pI pg 183) P kc ks 27 _ _ SHF _
  refine AW.if_eq (dq rfl) (tgt := 42) (by decide) (fun h1 => ?_) (fun h1 => ?_)
  rotate_left
  · exact absurd h1 (by decide)
  refine AW.iload (dq rfl) rfl ?_
  show AW l (pI pg 183) P kc ks 44 _ _ SHF _
  refine AW.if_eq (dq rfl) (tgt := 60) (by decide) (fun h2 => ?_) (fun h2 => ?_)
  rotate_left
  · exact absurd h2 (by decide)
  refine AW.iload (dq rfl) rfl ?_
  show AW l (pI pg 183) P kc ks 62 _ _ SHF _
  refine AW.if_eq (dq rfl) (tgt := 78) (by decide) (fun h3 => ?_) (fun h3 => ?_)
  rotate_left
  · exact absurd h3 (by decide)
  refine AW.lload (dq rfl) rfl ?_
  show AW l (pI pg 183) P kc ks 80 _ _ SHF _
  refine AW.lret (dq rfl) rfl ?_
  exact r4

theorem spv_can : (((((((Int8.ofInt 99).toInt32).toInt64) - (96)) <<< (((Int8.ofInt 10).toInt32).toInt64 &&& 63)) ||| (((((Int8.ofInt 97).toInt32).toInt64) - (96)) <<< ((Int32.ofInt 5).toInt64 &&& 63))) ||| ((((Int8.ofInt 110).toInt32) - ((Int8.ofInt 96).toInt32)).toInt64)) = lN 3118 := by decide
theorem spl_can_c {l : aL} (hl0 : l.1.stackTraces = false) {M : aM} : AC l (pI pg 183) (pvJ M (lN 3118)) 0 0 [.int ((Int8.ofInt 99).toInt32), .int ((Int8.ofInt 97).toInt32), .int ((Int8.ofInt 110).toInt32), .int (Int32.ofInt 0), .int (Int32.ofInt 0), .int (Int32.ofInt 0)] SHF M := by
  refine fw_of hl0 ⟨by decide +kernel, by decide +kernel, by decide +kernel⟩ rfl ?_
  refine spl_can ?_
  rw [spv_can]
  exact pvJ_of

theorem spl_learn {l : aL} {P : aP} {kc ks : Nat} {M : aM}   (r4 : P (.inl (some (.long (((((((((((Int8.ofInt 108).toInt32).toInt64) - (96)) <<< (((Int8.ofInt 10).toInt32).toInt64 &&& 63)) ||| (((((Int8.ofInt 101).toInt32).toInt64) - (96)) <<< ((Int32.ofInt 5).toInt64 &&& 63))) ||| ((((Int8.ofInt 97).toInt32) - ((Int8.ofInt 96).toInt32)).toInt64)) <<< ((Int32.ofInt 5).toInt64 &&& 63)) ||| ((((Int8.ofInt 114).toInt32) - ((Int8.ofInt 96).toInt32)).toInt64)) <<< ((Int32.ofInt 5).toInt64 &&& 63)) ||| ((((Int8.ofInt 110).toInt32) - ((Int8.ofInt 96).toInt32)).toInt64))))) SHF M) : AW l (pI pg 183) P kc ks 0 [(0, .int ((Int8.ofInt 108).toInt32)), (1, .int ((Int8.ofInt 101).toInt32)), (2, .int ((Int8.ofInt 97).toInt32)), (3, .int ((Int8.ofInt 114).toInt32)), (4, .int ((Int8.ofInt 110).toInt32)), (5, .int (Int32.ofInt 0))] [] SHF M := by
  refine AW.iload_n (dq rfl) rfl ?_
  show AW l (pI pg 183) P kc ks 1 _ _ SHF _
  refine AW.i2l (dq rfl) ?_
  show AW l (pI pg 183) P kc ks 2 _ _ SHF _
  refine AW.ldc2 (dq rfl) (pg_ok.2.2.2.2.2.1 183 _ 96 rfl) ?_
  show AW l (pI pg 183) P kc ks 5 _ _ SHF _
  refine AW.lsub (dq rfl) ?_
  show AW l (pI pg 183) P kc ks 6 _ _ SHF _
  refine AW.bipush (dq rfl) ?_
  show AW l (pI pg 183) P kc ks 8 _ _ SHF _
  refine AW.lshl (dq rfl) ?_
  show AW l (pI pg 183) P kc ks 9 _ _ SHF _
  refine AW.iload_n (dq rfl) rfl ?_
  show AW l (pI pg 183) P kc ks 10 _ _ SHF _
  refine AW.i2l (dq rfl) ?_
  show AW l (pI pg 183) P kc ks 11 _ _ SHF _
  refine AW.ldc2 (dq rfl) (pg_ok.2.2.2.2.2.1 183 _ 96 rfl) ?_
  show AW l (pI pg 183) P kc ks 14 _ _ SHF _
  refine AW.lsub (dq rfl) ?_
  show AW l (pI pg 183) P kc ks 15 _ _ SHF _
  refine AW.iconst (dq rfl) ?_
  show AW l (pI pg 183) P kc ks 16 _ _ SHF _
  refine AW.lshl (dq rfl) ?_
  show AW l (pI pg 183) P kc ks 17 _ _ SHF _
  refine AW.lor (dq rfl) ?_
  show AW l (pI pg 183) P kc ks 18 _ _ SHF _
  refine AW.iload_n (dq rfl) rfl ?_
  show AW l (pI pg 183) P kc ks 19 _ _ SHF _
  refine AW.bipush (dq rfl) ?_
  show AW l (pI pg 183) P kc ks 21 _ _ SHF _
  refine AW.isub (dq rfl) ?_
  show AW l (pI pg 183) P kc ks 22 _ _ SHF _
  refine AW.i2l (dq rfl) ?_
  show AW l (pI pg 183) P kc ks 23 _ _ SHF _
  refine AW.lor (dq rfl) ?_
  show AW l (pI pg 183) P kc ks 24 _ _ SHF _
  refine AW.lstore (dq rfl) (by decide +kernel) ?_
  show AW l (pI pg 183) P kc ks 26 [(6, .long (((((((Int8.ofInt 108).toInt32).toInt64) - (96)) <<< (((Int8.ofInt 10).toInt32).toInt64 &&& 63)) ||| (((((Int8.ofInt 101).toInt32).toInt64) - (96)) <<< ((Int32.ofInt 5).toInt64 &&& 63))) ||| ((((Int8.ofInt 97).toInt32) - ((Int8.ofInt 96).toInt32)).toInt64))), (0, .int ((Int8.ofInt 108).toInt32)), (1, .int ((Int8.ofInt 101).toInt32)), (2, .int ((Int8.ofInt 97).toInt32)), (3, .int ((Int8.ofInt 114).toInt32)), (4, .int ((Int8.ofInt 110).toInt32)), (5, .int (Int32.ofInt 0))] [] SHF _
  refine AW.iload_n (dq rfl) rfl ?_
  show AW l (pI pg 183) P kc ks 27 _ _ SHF _
  refine AW.if_eq (dq rfl) (tgt := 42) (by decide) (fun h1 => ?_) (fun h1 => ?_)
  · exact absurd h1 (by decide)
  refine AW.lload (dq rfl) rfl ?_
  show AW l (pI pg 183) P kc ks 32 _ _ SHF _
  refine AW.iconst (dq rfl) ?_
  show AW l (pI pg 183) P kc ks 33 _ _ SHF _
  refine AW.lshl (dq rfl) ?_
  show AW l (pI pg 183) P kc ks 34 _ _ SHF _
  refine AW.iload_n (dq rfl) rfl ?_
  show AW l (pI pg 183) P kc ks 35 _ _ SHF _
  refine AW.bipush (dq rfl) ?_
  show AW l (pI pg 183) P kc ks 37 _ _ SHF _
  refine AW.isub (dq rfl) ?_
  show AW l (pI pg 183) P kc ks 38 _ _ SHF _
  refine AW.i2l (dq rfl) ?_
  show AW l (pI pg 183) P kc ks 39 _ _ SHF _
  refine AW.lor (dq rfl) ?_
  show AW l (pI pg 183) P kc ks 40 _ _ SHF _
  refine AW.lstore (dq rfl) (by decide +kernel) ?_
  show AW l (pI pg 183) P kc ks 42 [(6, .long (((((((((Int8.ofInt 108).toInt32).toInt64) - (96)) <<< (((Int8.ofInt 10).toInt32).toInt64 &&& 63)) ||| (((((Int8.ofInt 101).toInt32).toInt64) - (96)) <<< ((Int32.ofInt 5).toInt64 &&& 63))) ||| ((((Int8.ofInt 97).toInt32) - ((Int8.ofInt 96).toInt32)).toInt64)) <<< ((Int32.ofInt 5).toInt64 &&& 63)) ||| ((((Int8.ofInt 114).toInt32) - ((Int8.ofInt 96).toInt32)).toInt64))), (0, .int ((Int8.ofInt 108).toInt32)), (1, .int ((Int8.ofInt 101).toInt32)), (2, .int ((Int8.ofInt 97).toInt32)), (3, .int ((Int8.ofInt 114).toInt32)), (4, .int ((Int8.ofInt 110).toInt32)), (5, .int (Int32.ofInt 0))] [] SHF _
  refine AW.iload (dq rfl) rfl ?_
  show AW l (pI pg 183) P kc ks 44 _ _ SHF _
  refine AW.if_eq (dq rfl) (tgt := 60) (by decide) (fun h2 => ?_) (fun h2 => ?_)
  · exact absurd h2 (by decide)
  refine AW.lload (dq rfl) rfl ?_
  show AW l (pI pg 183) P kc ks 49 _ _ SHF _
  refine AW.iconst (dq rfl) ?_
  show AW l (pI pg 183) P kc ks 50 _ _ SHF _
  refine AW.lshl (dq rfl) ?_
  show AW l (pI pg 183) P kc ks 51 _ _ SHF _
  refine AW.iload (dq rfl) rfl ?_
  show AW l (pI pg 183) P kc ks 53 _ _ SHF _
  refine AW.bipush (dq rfl) ?_
  show AW l (pI pg 183) P kc ks 55 _ _ SHF _
  refine AW.isub (dq rfl) ?_
  show AW l (pI pg 183) P kc ks 56 _ _ SHF _
  refine AW.i2l (dq rfl) ?_
  show AW l (pI pg 183) P kc ks 57 _ _ SHF _
  refine AW.lor (dq rfl) ?_
  show AW l (pI pg 183) P kc ks 58 _ _ SHF _
  refine AW.lstore (dq rfl) (by decide +kernel) ?_
  show AW l (pI pg 183) P kc ks 60 [(6, .long (((((((((((Int8.ofInt 108).toInt32).toInt64) - (96)) <<< (((Int8.ofInt 10).toInt32).toInt64 &&& 63)) ||| (((((Int8.ofInt 101).toInt32).toInt64) - (96)) <<< ((Int32.ofInt 5).toInt64 &&& 63))) ||| ((((Int8.ofInt 97).toInt32) - ((Int8.ofInt 96).toInt32)).toInt64)) <<< ((Int32.ofInt 5).toInt64 &&& 63)) ||| ((((Int8.ofInt 114).toInt32) - ((Int8.ofInt 96).toInt32)).toInt64)) <<< ((Int32.ofInt 5).toInt64 &&& 63)) ||| ((((Int8.ofInt 110).toInt32) - ((Int8.ofInt 96).toInt32)).toInt64))), (0, .int ((Int8.ofInt 108).toInt32)), (1, .int ((Int8.ofInt 101).toInt32)), (2, .int ((Int8.ofInt 97).toInt32)), (3, .int ((Int8.ofInt 114).toInt32)), (4, .int ((Int8.ofInt 110).toInt32)), (5, .int (Int32.ofInt 0))] [] SHF _
  refine AW.iload (dq rfl) rfl ?_
  show AW l (pI pg 183) P kc ks 62 _ _ SHF _
  refine AW.if_eq (dq rfl) (tgt := 78) (by decide) (fun h3 => ?_) (fun h3 => ?_)
  rotate_left
  · exact absurd h3 (by decide)
  refine AW.lload (dq rfl) rfl ?_
  show AW l (pI pg 183) P kc ks 80 _ _ SHF _
  refine AW.lret (dq rfl) rfl ?_
  exact r4

theorem spv_learn : (((((((((((Int8.ofInt 108).toInt32).toInt64) - (96)) <<< (((Int8.ofInt 10).toInt32).toInt64 &&& 63)) ||| (((((Int8.ofInt 101).toInt32).toInt64) - (96)) <<< ((Int32.ofInt 5).toInt64 &&& 63))) ||| ((((Int8.ofInt 97).toInt32) - ((Int8.ofInt 96).toInt32)).toInt64)) <<< ((Int32.ofInt 5).toInt64 &&& 63)) ||| ((((Int8.ofInt 114).toInt32) - ((Int8.ofInt 96).toInt32)).toInt64)) <<< ((Int32.ofInt 5).toInt64 &&& 63)) ||| ((((Int8.ofInt 110).toInt32) - ((Int8.ofInt 96).toInt32)).toInt64)) = lN 12748366 := by decide
theorem spl_learn_c {l : aL} (hl0 : l.1.stackTraces = false) {M : aM} : AC l (pI pg 183) (pvJ M (lN 12748366)) 0 0 [.int ((Int8.ofInt 108).toInt32), .int ((Int8.ofInt 101).toInt32), .int ((Int8.ofInt 97).toInt32), .int ((Int8.ofInt 114).toInt32), .int ((Int8.ofInt 110).toInt32), .int (Int32.ofInt 0)] SHF M := by
  refine fw_of hl0 ⟨by decide +kernel, by decide +kernel, by decide +kernel⟩ rfl ?_
  refine spl_learn ?_
  rw [spv_learn]
  exact pvJ_of

theorem spl_forget {l : aL} {P : aP} {kc ks : Nat} {M : aM}   (r4 : P (.inl (some (.long (((((((((((((Int8.ofInt 102).toInt32).toInt64) - (96)) <<< (((Int8.ofInt 10).toInt32).toInt64 &&& 63)) ||| (((((Int8.ofInt 111).toInt32).toInt64) - (96)) <<< ((Int32.ofInt 5).toInt64 &&& 63))) ||| ((((Int8.ofInt 114).toInt32) - ((Int8.ofInt 96).toInt32)).toInt64)) <<< ((Int32.ofInt 5).toInt64 &&& 63)) ||| ((((Int8.ofInt 103).toInt32) - ((Int8.ofInt 96).toInt32)).toInt64)) <<< ((Int32.ofInt 5).toInt64 &&& 63)) ||| ((((Int8.ofInt 101).toInt32) - ((Int8.ofInt 96).toInt32)).toInt64)) <<< ((Int32.ofInt 5).toInt64 &&& 63)) ||| ((((Int8.ofInt 116).toInt32) - ((Int8.ofInt 96).toInt32)).toInt64))))) SHF M) : AW l (pI pg 183) P kc ks 0 [(0, .int ((Int8.ofInt 102).toInt32)), (1, .int ((Int8.ofInt 111).toInt32)), (2, .int ((Int8.ofInt 114).toInt32)), (3, .int ((Int8.ofInt 103).toInt32)), (4, .int ((Int8.ofInt 101).toInt32)), (5, .int ((Int8.ofInt 116).toInt32))] [] SHF M := by
  refine AW.iload_n (dq rfl) rfl ?_
  show AW l (pI pg 183) P kc ks 1 _ _ SHF _
  refine AW.i2l (dq rfl) ?_
  show AW l (pI pg 183) P kc ks 2 _ _ SHF _
  refine AW.ldc2 (dq rfl) (pg_ok.2.2.2.2.2.1 183 _ 96 rfl) ?_
  show AW l (pI pg 183) P kc ks 5 _ _ SHF _
  refine AW.lsub (dq rfl) ?_
  show AW l (pI pg 183) P kc ks 6 _ _ SHF _
  refine AW.bipush (dq rfl) ?_
  show AW l (pI pg 183) P kc ks 8 _ _ SHF _
  refine AW.lshl (dq rfl) ?_
  show AW l (pI pg 183) P kc ks 9 _ _ SHF _
  refine AW.iload_n (dq rfl) rfl ?_
  show AW l (pI pg 183) P kc ks 10 _ _ SHF _
  refine AW.i2l (dq rfl) ?_
  show AW l (pI pg 183) P kc ks 11 _ _ SHF _
  refine AW.ldc2 (dq rfl) (pg_ok.2.2.2.2.2.1 183 _ 96 rfl) ?_
  show AW l (pI pg 183) P kc ks 14 _ _ SHF _
  refine AW.lsub (dq rfl) ?_
  show AW l (pI pg 183) P kc ks 15 _ _ SHF _
  refine AW.iconst (dq rfl) ?_
  show AW l (pI pg 183) P kc ks 16 _ _ SHF _
  refine AW.lshl (dq rfl) ?_
  show AW l (pI pg 183) P kc ks 17 _ _ SHF _
  refine AW.lor (dq rfl) ?_
  show AW l (pI pg 183) P kc ks 18 _ _ SHF _
  refine AW.iload_n (dq rfl) rfl ?_
  show AW l (pI pg 183) P kc ks 19 _ _ SHF _
  refine AW.bipush (dq rfl) ?_
  show AW l (pI pg 183) P kc ks 21 _ _ SHF _
  refine AW.isub (dq rfl) ?_
  show AW l (pI pg 183) P kc ks 22 _ _ SHF _
  refine AW.i2l (dq rfl) ?_
  show AW l (pI pg 183) P kc ks 23 _ _ SHF _
  refine AW.lor (dq rfl) ?_
  show AW l (pI pg 183) P kc ks 24 _ _ SHF _
  refine AW.lstore (dq rfl) (by decide +kernel) ?_
  show AW l (pI pg 183) P kc ks 26 [(6, .long (((((((Int8.ofInt 102).toInt32).toInt64) - (96)) <<< (((Int8.ofInt 10).toInt32).toInt64 &&& 63)) ||| (((((Int8.ofInt 111).toInt32).toInt64) - (96)) <<< ((Int32.ofInt 5).toInt64 &&& 63))) ||| ((((Int8.ofInt 114).toInt32) - ((Int8.ofInt 96).toInt32)).toInt64))), (0, .int ((Int8.ofInt 102).toInt32)), (1, .int ((Int8.ofInt 111).toInt32)), (2, .int ((Int8.ofInt 114).toInt32)), (3, .int ((Int8.ofInt 103).toInt32)), (4, .int ((Int8.ofInt 101).toInt32)), (5, .int ((Int8.ofInt 116).toInt32))] [] SHF _
  refine AW.iload_n (dq rfl) rfl ?_
  show AW l (pI pg 183) P kc ks 27 _ _ SHF _
  refine AW.if_eq (dq rfl) (tgt := 42) (by decide) (fun h1 => ?_) (fun h1 => ?_)
  · exact absurd h1 (by decide)
  refine AW.lload (dq rfl) rfl ?_
  show AW l (pI pg 183) P kc ks 32 _ _ SHF _
  refine AW.iconst (dq rfl) ?_
  show AW l (pI pg 183) P kc ks 33 _ _ SHF _
  refine AW.lshl (dq rfl) ?_
  show AW l (pI pg 183) P kc ks 34 _ _ SHF _
  refine AW.iload_n (dq rfl) rfl ?_
  show AW l (pI pg 183) P kc ks 35 _ _ SHF _
  refine AW.bipush (dq rfl) ?_
  show AW l (pI pg 183) P kc ks 37 _ _ SHF _
  refine AW.isub (dq rfl) ?_
  show AW l (pI pg 183) P kc ks 38 _ _ SHF _
  refine AW.i2l (dq rfl) ?_
  show AW l (pI pg 183) P kc ks 39 _ _ SHF _
  refine AW.lor (dq rfl) ?_
  show AW l (pI pg 183) P kc ks 40 _ _ SHF _
  refine AW.lstore (dq rfl) (by decide +kernel) ?_
  show AW l (pI pg 183) P kc ks 42 [(6, .long (((((((((Int8.ofInt 102).toInt32).toInt64) - (96)) <<< (((Int8.ofInt 10).toInt32).toInt64 &&& 63)) ||| (((((Int8.ofInt 111).toInt32).toInt64) - (96)) <<< ((Int32.ofInt 5).toInt64 &&& 63))) ||| ((((Int8.ofInt 114).toInt32) - ((Int8.ofInt 96).toInt32)).toInt64)) <<< ((Int32.ofInt 5).toInt64 &&& 63)) ||| ((((Int8.ofInt 103).toInt32) - ((Int8.ofInt 96).toInt32)).toInt64))), (0, .int ((Int8.ofInt 102).toInt32)), (1, .int ((Int8.ofInt 111).toInt32)), (2, .int ((Int8.ofInt 114).toInt32)), (3, .int ((Int8.ofInt 103).toInt32)), (4, .int ((Int8.ofInt 101).toInt32)), (5, .int ((Int8.ofInt 116).toInt32))] [] SHF _
  refine AW.iload (dq rfl) rfl ?_
  show AW l (pI pg 183) P kc ks 44 _ _ SHF _
  refine AW.if_eq (dq rfl) (tgt := 60) (by decide) (fun h2 => ?_) (fun h2 => ?_)
  · exact absurd h2 (by decide)
  refine AW.lload (dq rfl) rfl ?_
  show AW l (pI pg 183) P kc ks 49 _ _ SHF _
  refine AW.iconst (dq rfl) ?_
  show AW l (pI pg 183) P kc ks 50 _ _ SHF _
  refine AW.lshl (dq rfl) ?_
  show AW l (pI pg 183) P kc ks 51 _ _ SHF _
  refine AW.iload (dq rfl) rfl ?_
  show AW l (pI pg 183) P kc ks 53 _ _ SHF _
  refine AW.bipush (dq rfl) ?_
  show AW l (pI pg 183) P kc ks 55 _ _ SHF _
  refine AW.isub (dq rfl) ?_
  show AW l (pI pg 183) P kc ks 56 _ _ SHF _
  refine AW.i2l (dq rfl) ?_
  show AW l (pI pg 183) P kc ks 57 _ _ SHF _
  refine AW.lor (dq rfl) ?_
  show AW l (pI pg 183) P kc ks 58 _ _ SHF _
  refine AW.lstore (dq rfl) (by decide +kernel) ?_
  show AW l (pI pg 183) P kc ks 60 [(6, .long (((((((((((Int8.ofInt 102).toInt32).toInt64) - (96)) <<< (((Int8.ofInt 10).toInt32).toInt64 &&& 63)) ||| (((((Int8.ofInt 111).toInt32).toInt64) - (96)) <<< ((Int32.ofInt 5).toInt64 &&& 63))) ||| ((((Int8.ofInt 114).toInt32) - ((Int8.ofInt 96).toInt32)).toInt64)) <<< ((Int32.ofInt 5).toInt64 &&& 63)) ||| ((((Int8.ofInt 103).toInt32) - ((Int8.ofInt 96).toInt32)).toInt64)) <<< ((Int32.ofInt 5).toInt64 &&& 63)) ||| ((((Int8.ofInt 101).toInt32) - ((Int8.ofInt 96).toInt32)).toInt64))), (0, .int ((Int8.ofInt 102).toInt32)), (1, .int ((Int8.ofInt 111).toInt32)), (2, .int ((Int8.ofInt 114).toInt32)), (3, .int ((Int8.ofInt 103).toInt32)), (4, .int ((Int8.ofInt 101).toInt32)), (5, .int ((Int8.ofInt 116).toInt32))] [] SHF _
  refine AW.iload (dq rfl) rfl ?_
  show AW l (pI pg 183) P kc ks 62 _ _ SHF _
  refine AW.if_eq (dq rfl) (tgt := 78) (by decide) (fun h3 => ?_) (fun h3 => ?_)
  · exact absurd h3 (by decide)
  refine AW.lload (dq rfl) rfl ?_
  show AW l (pI pg 183) P kc ks 67 _ _ SHF _
  refine AW.iconst (dq rfl) ?_
  show AW l (pI pg 183) P kc ks 68 _ _ SHF _
  refine AW.lshl (dq rfl) ?_
  show AW l (pI pg 183) P kc ks 69 _ _ SHF _
  refine AW.iload (dq rfl) rfl ?_
  show AW l (pI pg 183) P kc ks 71 _ _ SHF _
  refine AW.bipush (dq rfl) ?_
  show AW l (pI pg 183) P kc ks 73 _ _ SHF _
  refine AW.isub (dq rfl) ?_
  show AW l (pI pg 183) P kc ks 74 _ _ SHF _
  refine AW.i2l (dq rfl) ?_
  show AW l (pI pg 183) P kc ks 75 _ _ SHF _
  refine AW.lor (dq rfl) ?_
  show AW l (pI pg 183) P kc ks 76 _ _ SHF _
  refine AW.lstore (dq rfl) (by decide +kernel) ?_
  show AW l (pI pg 183) P kc ks 78 [(6, .long (((((((((((((Int8.ofInt 102).toInt32).toInt64) - (96)) <<< (((Int8.ofInt 10).toInt32).toInt64 &&& 63)) ||| (((((Int8.ofInt 111).toInt32).toInt64) - (96)) <<< ((Int32.ofInt 5).toInt64 &&& 63))) ||| ((((Int8.ofInt 114).toInt32) - ((Int8.ofInt 96).toInt32)).toInt64)) <<< ((Int32.ofInt 5).toInt64 &&& 63)) ||| ((((Int8.ofInt 103).toInt32) - ((Int8.ofInt 96).toInt32)).toInt64)) <<< ((Int32.ofInt 5).toInt64 &&& 63)) ||| ((((Int8.ofInt 101).toInt32) - ((Int8.ofInt 96).toInt32)).toInt64)) <<< ((Int32.ofInt 5).toInt64 &&& 63)) ||| ((((Int8.ofInt 116).toInt32) - ((Int8.ofInt 96).toInt32)).toInt64))), (0, .int ((Int8.ofInt 102).toInt32)), (1, .int ((Int8.ofInt 111).toInt32)), (2, .int ((Int8.ofInt 114).toInt32)), (3, .int ((Int8.ofInt 103).toInt32)), (4, .int ((Int8.ofInt 101).toInt32)), (5, .int ((Int8.ofInt 116).toInt32))] [] SHF _
  refine AW.lload (dq rfl) rfl ?_
  show AW l (pI pg 183) P kc ks 80 _ _ SHF _
  refine AW.lret (dq rfl) rfl ?_
  exact r4

theorem spv_forget : (((((((((((((Int8.ofInt 102).toInt32).toInt64) - (96)) <<< (((Int8.ofInt 10).toInt32).toInt64 &&& 63)) ||| (((((Int8.ofInt 111).toInt32).toInt64) - (96)) <<< ((Int32.ofInt 5).toInt64 &&& 63))) ||| ((((Int8.ofInt 114).toInt32) - ((Int8.ofInt 96).toInt32)).toInt64)) <<< ((Int32.ofInt 5).toInt64 &&& 63)) ||| ((((Int8.ofInt 103).toInt32) - ((Int8.ofInt 96).toInt32)).toInt64)) <<< ((Int32.ofInt 5).toInt64 &&& 63)) ||| ((((Int8.ofInt 101).toInt32) - ((Int8.ofInt 96).toInt32)).toInt64)) <<< ((Int32.ofInt 5).toInt64 &&& 63)) ||| ((((Int8.ofInt 116).toInt32) - ((Int8.ofInt 96).toInt32)).toInt64)) = lN 217652404 := by decide
theorem spl_forget_c {l : aL} (hl0 : l.1.stackTraces = false) {M : aM} : AC l (pI pg 183) (pvJ M (lN 217652404)) 0 0 [.int ((Int8.ofInt 102).toInt32), .int ((Int8.ofInt 111).toInt32), .int ((Int8.ofInt 114).toInt32), .int ((Int8.ofInt 103).toInt32), .int ((Int8.ofInt 101).toInt32), .int ((Int8.ofInt 116).toInt32)] SHF M := by
  refine fw_of hl0 ⟨by decide +kernel, by decide +kernel, by decide +kernel⟩ rfl ?_
  refine spl_forget ?_
  rw [spv_forget]
  exact pvJ_of

theorem spl_drawn {l : aL} {P : aP} {kc ks : Nat} {M : aM}   (r4 : P (.inl (some (.long (((((((((((Int8.ofInt 100).toInt32).toInt64) - (96)) <<< (((Int8.ofInt 10).toInt32).toInt64 &&& 63)) ||| (((((Int8.ofInt 114).toInt32).toInt64) - (96)) <<< ((Int32.ofInt 5).toInt64 &&& 63))) ||| ((((Int8.ofInt 97).toInt32) - ((Int8.ofInt 96).toInt32)).toInt64)) <<< ((Int32.ofInt 5).toInt64 &&& 63)) ||| ((((Int8.ofInt 119).toInt32) - ((Int8.ofInt 96).toInt32)).toInt64)) <<< ((Int32.ofInt 5).toInt64 &&& 63)) ||| ((((Int8.ofInt 110).toInt32) - ((Int8.ofInt 96).toInt32)).toInt64))))) SHF M) : AW l (pI pg 183) P kc ks 0 [(0, .int ((Int8.ofInt 100).toInt32)), (1, .int ((Int8.ofInt 114).toInt32)), (2, .int ((Int8.ofInt 97).toInt32)), (3, .int ((Int8.ofInt 119).toInt32)), (4, .int ((Int8.ofInt 110).toInt32)), (5, .int (Int32.ofInt 0))] [] SHF M := by
  refine AW.iload_n (dq rfl) rfl ?_
  show AW l (pI pg 183) P kc ks 1 _ _ SHF _
  refine AW.i2l (dq rfl) ?_
  show AW l (pI pg 183) P kc ks 2 _ _ SHF _
  refine AW.ldc2 (dq rfl) (pg_ok.2.2.2.2.2.1 183 _ 96 rfl) ?_
  show AW l (pI pg 183) P kc ks 5 _ _ SHF _
  refine AW.lsub (dq rfl) ?_
  show AW l (pI pg 183) P kc ks 6 _ _ SHF _
  refine AW.bipush (dq rfl) ?_
  show AW l (pI pg 183) P kc ks 8 _ _ SHF _
  refine AW.lshl (dq rfl) ?_
  show AW l (pI pg 183) P kc ks 9 _ _ SHF _
  refine AW.iload_n (dq rfl) rfl ?_
  show AW l (pI pg 183) P kc ks 10 _ _ SHF _
  refine AW.i2l (dq rfl) ?_
  show AW l (pI pg 183) P kc ks 11 _ _ SHF _
  refine AW.ldc2 (dq rfl) (pg_ok.2.2.2.2.2.1 183 _ 96 rfl) ?_
  show AW l (pI pg 183) P kc ks 14 _ _ SHF _
  refine AW.lsub (dq rfl) ?_
  show AW l (pI pg 183) P kc ks 15 _ _ SHF _
  refine AW.iconst (dq rfl) ?_
  show AW l (pI pg 183) P kc ks 16 _ _ SHF _
  refine AW.lshl (dq rfl) ?_
  show AW l (pI pg 183) P kc ks 17 _ _ SHF _
  refine AW.lor (dq rfl) ?_
  show AW l (pI pg 183) P kc ks 18 _ _ SHF _
  refine AW.iload_n (dq rfl) rfl ?_
  show AW l (pI pg 183) P kc ks 19 _ _ SHF _
  refine AW.bipush (dq rfl) ?_
  show AW l (pI pg 183) P kc ks 21 _ _ SHF _
  refine AW.isub (dq rfl) ?_
  show AW l (pI pg 183) P kc ks 22 _ _ SHF _
  refine AW.i2l (dq rfl) ?_
  show AW l (pI pg 183) P kc ks 23 _ _ SHF _
  refine AW.lor (dq rfl) ?_
  show AW l (pI pg 183) P kc ks 24 _ _ SHF _
  refine AW.lstore (dq rfl) (by decide +kernel) ?_
  show AW l (pI pg 183) P kc ks 26 [(6, .long (((((((Int8.ofInt 100).toInt32).toInt64) - (96)) <<< (((Int8.ofInt 10).toInt32).toInt64 &&& 63)) ||| (((((Int8.ofInt 114).toInt32).toInt64) - (96)) <<< ((Int32.ofInt 5).toInt64 &&& 63))) ||| ((((Int8.ofInt 97).toInt32) - ((Int8.ofInt 96).toInt32)).toInt64))), (0, .int ((Int8.ofInt 100).toInt32)), (1, .int ((Int8.ofInt 114).toInt32)), (2, .int ((Int8.ofInt 97).toInt32)), (3, .int ((Int8.ofInt 119).toInt32)), (4, .int ((Int8.ofInt 110).toInt32)), (5, .int (Int32.ofInt 0))] [] SHF _
  refine AW.iload_n (dq rfl) rfl ?_
  show AW l (pI pg 183) P kc ks 27 _ _ SHF _
  refine AW.if_eq (dq rfl) (tgt := 42) (by decide) (fun h1 => ?_) (fun h1 => ?_)
  · exact absurd h1 (by decide)
  refine AW.lload (dq rfl) rfl ?_
  show AW l (pI pg 183) P kc ks 32 _ _ SHF _
  refine AW.iconst (dq rfl) ?_
  show AW l (pI pg 183) P kc ks 33 _ _ SHF _
  refine AW.lshl (dq rfl) ?_
  show AW l (pI pg 183) P kc ks 34 _ _ SHF _
  refine AW.iload_n (dq rfl) rfl ?_
  show AW l (pI pg 183) P kc ks 35 _ _ SHF _
  refine AW.bipush (dq rfl) ?_
  show AW l (pI pg 183) P kc ks 37 _ _ SHF _
  refine AW.isub (dq rfl) ?_
  show AW l (pI pg 183) P kc ks 38 _ _ SHF _
  refine AW.i2l (dq rfl) ?_
  show AW l (pI pg 183) P kc ks 39 _ _ SHF _
  refine AW.lor (dq rfl) ?_
  show AW l (pI pg 183) P kc ks 40 _ _ SHF _
  refine AW.lstore (dq rfl) (by decide +kernel) ?_
  show AW l (pI pg 183) P kc ks 42 [(6, .long (((((((((Int8.ofInt 100).toInt32).toInt64) - (96)) <<< (((Int8.ofInt 10).toInt32).toInt64 &&& 63)) ||| (((((Int8.ofInt 114).toInt32).toInt64) - (96)) <<< ((Int32.ofInt 5).toInt64 &&& 63))) ||| ((((Int8.ofInt 97).toInt32) - ((Int8.ofInt 96).toInt32)).toInt64)) <<< ((Int32.ofInt 5).toInt64 &&& 63)) ||| ((((Int8.ofInt 119).toInt32) - ((Int8.ofInt 96).toInt32)).toInt64))), (0, .int ((Int8.ofInt 100).toInt32)), (1, .int ((Int8.ofInt 114).toInt32)), (2, .int ((Int8.ofInt 97).toInt32)), (3, .int ((Int8.ofInt 119).toInt32)), (4, .int ((Int8.ofInt 110).toInt32)), (5, .int (Int32.ofInt 0))] [] SHF _
  refine AW.iload (dq rfl) rfl ?_
  show AW l (pI pg 183) P kc ks 44 _ _ SHF _
  refine AW.if_eq (dq rfl) (tgt := 60) (by decide) (fun h2 => ?_) (fun h2 => ?_)
  · exact absurd h2 (by decide)
  refine AW.lload (dq rfl) rfl ?_
  show AW l (pI pg 183) P kc ks 49 _ _ SHF _
  refine AW.iconst (dq rfl) ?_
  show AW l (pI pg 183) P kc ks 50 _ _ SHF _
  refine AW.lshl (dq rfl) ?_
  show AW l (pI pg 183) P kc ks 51 _ _ SHF _
  refine AW.iload (dq rfl) rfl ?_
  show AW l (pI pg 183) P kc ks 53 _ _ SHF _
  refine AW.bipush (dq rfl) ?_
  show AW l (pI pg 183) P kc ks 55 _ _ SHF _
  refine AW.isub (dq rfl) ?_
  show AW l (pI pg 183) P kc ks 56 _ _ SHF _
  refine AW.i2l (dq rfl) ?_
  show AW l (pI pg 183) P kc ks 57 _ _ SHF _
  refine AW.lor (dq rfl) ?_
  show AW l (pI pg 183) P kc ks 58 _ _ SHF _
  refine AW.lstore (dq rfl) (by decide +kernel) ?_
  show AW l (pI pg 183) P kc ks 60 [(6, .long (((((((((((Int8.ofInt 100).toInt32).toInt64) - (96)) <<< (((Int8.ofInt 10).toInt32).toInt64 &&& 63)) ||| (((((Int8.ofInt 114).toInt32).toInt64) - (96)) <<< ((Int32.ofInt 5).toInt64 &&& 63))) ||| ((((Int8.ofInt 97).toInt32) - ((Int8.ofInt 96).toInt32)).toInt64)) <<< ((Int32.ofInt 5).toInt64 &&& 63)) ||| ((((Int8.ofInt 119).toInt32) - ((Int8.ofInt 96).toInt32)).toInt64)) <<< ((Int32.ofInt 5).toInt64 &&& 63)) ||| ((((Int8.ofInt 110).toInt32) - ((Int8.ofInt 96).toInt32)).toInt64))), (0, .int ((Int8.ofInt 100).toInt32)), (1, .int ((Int8.ofInt 114).toInt32)), (2, .int ((Int8.ofInt 97).toInt32)), (3, .int ((Int8.ofInt 119).toInt32)), (4, .int ((Int8.ofInt 110).toInt32)), (5, .int (Int32.ofInt 0))] [] SHF _
  refine AW.iload (dq rfl) rfl ?_
  show AW l (pI pg 183) P kc ks 62 _ _ SHF _
  refine AW.if_eq (dq rfl) (tgt := 78) (by decide) (fun h3 => ?_) (fun h3 => ?_)
  rotate_left
  · exact absurd h3 (by decide)
  refine AW.lload (dq rfl) rfl ?_
  show AW l (pI pg 183) P kc ks 80 _ _ SHF _
  refine AW.lret (dq rfl) rfl ?_
  exact r4

theorem spv_drawn : (((((((((((Int8.ofInt 100).toInt32).toInt64) - (96)) <<< (((Int8.ofInt 10).toInt32).toInt64 &&& 63)) ||| (((((Int8.ofInt 114).toInt32).toInt64) - (96)) <<< ((Int32.ofInt 5).toInt64 &&& 63))) ||| ((((Int8.ofInt 97).toInt32) - ((Int8.ofInt 96).toInt32)).toInt64)) <<< ((Int32.ofInt 5).toInt64 &&& 63)) ||| ((((Int8.ofInt 119).toInt32) - ((Int8.ofInt 96).toInt32)).toInt64)) <<< ((Int32.ofInt 5).toInt64 &&& 63)) ||| ((((Int8.ofInt 110).toInt32) - ((Int8.ofInt 96).toInt32)).toInt64)) = lN 4785902 := by decide
theorem spl_drawn_c {l : aL} (hl0 : l.1.stackTraces = false) {M : aM} : AC l (pI pg 183) (pvJ M (lN 4785902)) 0 0 [.int ((Int8.ofInt 100).toInt32), .int ((Int8.ofInt 114).toInt32), .int ((Int8.ofInt 97).toInt32), .int ((Int8.ofInt 119).toInt32), .int ((Int8.ofInt 110).toInt32), .int (Int32.ofInt 0)] SHF M := by
  refine fw_of hl0 ⟨by decide +kernel, by decide +kernel, by decide +kernel⟩ rfl ?_
  refine spl_drawn ?_
  rw [spv_drawn]
  exact pvJ_of

theorem is0_0 {l : aL} {P : aP} {kc ks : Nat} {M : aM} (hJ : ∀ e ∈ RM, M.2.2 e.1 e.2.1 = e.2.2) (hl0 : l.1.stackTraces = false) (r2 : ∀ (h1 : ¬ (M.1 58 18 : Int32) = (Int32.ofInt 1 : Int32)), P (.inl (some (.int (Int32.ofInt 0)))) SHF M) (r6 : ∀ (h1 : (M.1 58 18 : Int32) = (Int32.ofInt 1 : Int32)), ∀ (h3 : (M.1 58 20 : Int32) ≤ ((Int8.ofInt 6).toInt32 : Int32)), ∀ (h5 : ¬ (lg_cmp (M.2.1 58 22) (lN 542723566) : Int32) = 0), P (.inl (some (.int (Int32.ofInt 0)))) SHF M) (r7 : ∀ (h1 : (M.1 58 18 : Int32) = (Int32.ofInt 1 : Int32)), ∀ (h3 : (M.1 58 20 : Int32) ≤ ((Int8.ofInt 6).toInt32 : Int32)), ∀ (h5 : (lg_cmp (M.2.1 58 22) (lN 542723566) : Int32) = 0), P (.inl (some (.int (Int32.ofInt 1)))) SHF M) (r8 : ∀ (h1 : (M.1 58 18 : Int32) = (Int32.ofInt 1 : Int32)), ∀ (h3 : ¬ ((M.1 58 20 : Int32) ≤ ((Int8.ofInt 6).toInt32 : Int32))), P (.inl (some (.int (Int32.ofInt 0)))) SHF M) : AW l (pI pg 182) P kc ks 0 [(0, .ref 58), (1, .int (Int32.ofInt 0))] [] SHF M := by
  refine AW.aload_n (dq rfl) rfl rfl ?_
  show AW l (pI pg 182) P kc ks 1 _ _ SHF _
  refine fw_get (dq rfl) (pg_ok.2.1 182 _ _ _ _ rfl) rfl (v := .int (M.1 58 18)) rfl ?_
  show AW l (pI pg 182) P kc ks 4 _ _ SHF _
  refine AW.iconst (dq rfl) ?_
  show AW l (pI pg 182) P kc ks 5 _ _ SHF _
  refine AW.icmp_ne (dq rfl) (tgt := 17) (by decide) (fun h1 => ?_) (fun h1 => ?_)
  · have _ := h1
    refine AW.iconst (dq rfl) ?_
    show AW l (pI pg 182) P kc ks 18 _ _ SHF _
    refine AW.zret (dq rfl) rfl (by decide) ?_
    exact r2 h1
  · have _ := h1
    refine AW.aload_n (dq rfl) rfl rfl ?_
    show AW l (pI pg 182) P kc ks 9 _ _ SHF _
    refine fw_get (dq rfl) (pg_ok.2.1 182 _ _ _ _ rfl) rfl (v := .int (M.1 58 20)) rfl ?_
    show AW l (pI pg 182) P kc ks 12 _ _ SHF _
    refine AW.bipush (dq rfl) ?_
    show AW l (pI pg 182) P kc ks 14 _ _ SHF _
    refine AW.icmp_le (dq rfl) (tgt := 19) (by decide) (fun h3 => ?_) (fun h3 => ?_)
    · have _ := h3
      refine AW.iload_n (dq rfl) rfl ?_
      show AW l (pI pg 182) P kc ks 20 _ _ SHF _
      refine AW.tableIn (dq rfl) (by decide) (by decide) (off := 36) rfl (tgt := 56) (by decide) ?_
      show AW l (pI pg 182) P kc ks 56 [(0, .ref 58), (1, .int (Int32.ofInt 0))] [] SHF _
      refine AW.aload_n (dq rfl) rfl rfl ?_
      show AW l (pI pg 182) P kc ks 57 _ _ SHF _
      refine fw_get (dq rfl) (pg_ok.2.1 182 _ _ _ _ rfl) rfl (v := .long (M.2.1 58 22)) rfl ?_
      show AW l (pI pg 182) P kc ks 60 _ _ SHF _
      refine AW.bipush (dq rfl) ?_
      show AW l (pI pg 182) P kc ks 62 _ _ SHF _
      refine AW.bipush (dq rfl) ?_
      show AW l (pI pg 182) P kc ks 64 _ _ SHF _
      refine AW.bipush (dq rfl) ?_
      show AW l (pI pg 182) P kc ks 66 _ _ SHF _
      refine AW.bipush (dq rfl) ?_
      show AW l (pI pg 182) P kc ks 68 _ _ SHF _
      refine AW.bipush (dq rfl) ?_
      show AW l (pI pg 182) P kc ks 70 _ _ SHF _
      refine AW.bipush (dq rfl) ?_
      show AW l (pI pg 182) P kc ks 72 _ _ SHF _
      refine fw_callSJ (as := [.int ((Int8.ofInt 112).toInt32), .int ((Int8.ofInt 101).toInt32), .int ((Int8.ofInt 114).toInt32), .int ((Int8.ofInt 115).toInt32), .int ((Int8.ofInt 111).toInt32), .int ((Int8.ofInt 110).toInt32)]) (dq rfl) (pg_ok.2.2.1 182 _ _ _ _ rfl) (by decide +kernel) rfl rfl (spl_person_c hl0) (fun y4 M4 e4 q4 => ?_)
      obtain ⟨rfl, rfl⟩ := q4
      show AW l (pI pg 182) P kc ks 75 [(0, .ref 58), (1, .int (Int32.ofInt 0))] [.long (lN 542723566), .long (M.2.1 58 22)] SHF _
      refine AW.lcmp (dq rfl) ?_
      show AW l (pI pg 182) P kc ks 76 _ _ SHF _
      refine AW.if_ne (dq rfl) (tgt := 83) (by decide) (fun h5 => ?_) (fun h5 => ?_)
      · have _ := h5
        refine AW.iconst (dq rfl) ?_
        show AW l (pI pg 182) P kc ks 84 _ _ SHF _
        refine AW.zret (dq rfl) rfl (by decide) ?_
        exact r6 h1 h3 h5
      · have _ := h5
        refine AW.iconst (dq rfl) ?_
        show AW l (pI pg 182) P kc ks 80 _ _ SHF _
        refine AW.goto (dq rfl) (tgt := 84) (by decide) ?_
        refine AW.zret (dq rfl) rfl (by decide) ?_
        exact r7 h1 h3 h5
    · have _ := h3
      refine AW.iconst (dq rfl) ?_
      show AW l (pI pg 182) P kc ks 18 _ _ SHF _
      refine AW.zret (dq rfl) rfl (by decide) ?_
      exact r8 h1 h3

theorem is1_0 {l : aL} {P : aP} {kc ks : Nat} {M : aM} (hJ : ∀ e ∈ RM, M.2.2 e.1 e.2.1 = e.2.2) (hl0 : l.1.stackTraces = false) (r2 : ∀ (h1 : ¬ (M.1 58 18 : Int32) = (Int32.ofInt 1 : Int32)), P (.inl (some (.int (Int32.ofInt 0)))) SHF M) (r6 : ∀ (h1 : (M.1 58 18 : Int32) = (Int32.ofInt 1 : Int32)), ∀ (h3 : (M.1 58 20 : Int32) ≤ ((Int8.ofInt 6).toInt32 : Int32)), ∀ (h5 : ¬ (lg_cmp (M.2.1 58 22) (lN 769611) : Int32) = 0), P (.inl (some (.int (Int32.ofInt 0)))) SHF M) (r7 : ∀ (h1 : (M.1 58 18 : Int32) = (Int32.ofInt 1 : Int32)), ∀ (h3 : (M.1 58 20 : Int32) ≤ ((Int8.ofInt 6).toInt32 : Int32)), ∀ (h5 : (lg_cmp (M.2.1 58 22) (lN 769611) : Int32) = 0), P (.inl (some (.int (Int32.ofInt 1)))) SHF M) (r8 : ∀ (h1 : (M.1 58 18 : Int32) = (Int32.ofInt 1 : Int32)), ∀ (h3 : ¬ ((M.1 58 20 : Int32) ≤ ((Int8.ofInt 6).toInt32 : Int32))), P (.inl (some (.int (Int32.ofInt 0)))) SHF M) : AW l (pI pg 182) P kc ks 0 [(0, .ref 58), (1, .int (Int32.ofInt 1))] [] SHF M := by
  refine AW.aload_n (dq rfl) rfl rfl ?_
  show AW l (pI pg 182) P kc ks 1 _ _ SHF _
  refine fw_get (dq rfl) (pg_ok.2.1 182 _ _ _ _ rfl) rfl (v := .int (M.1 58 18)) rfl ?_
  show AW l (pI pg 182) P kc ks 4 _ _ SHF _
  refine AW.iconst (dq rfl) ?_
  show AW l (pI pg 182) P kc ks 5 _ _ SHF _
  refine AW.icmp_ne (dq rfl) (tgt := 17) (by decide) (fun h1 => ?_) (fun h1 => ?_)
  · have _ := h1
    refine AW.iconst (dq rfl) ?_
    show AW l (pI pg 182) P kc ks 18 _ _ SHF _
    refine AW.zret (dq rfl) rfl (by decide) ?_
    exact r2 h1
  · have _ := h1
    refine AW.aload_n (dq rfl) rfl rfl ?_
    show AW l (pI pg 182) P kc ks 9 _ _ SHF _
    refine fw_get (dq rfl) (pg_ok.2.1 182 _ _ _ _ rfl) rfl (v := .int (M.1 58 20)) rfl ?_
    show AW l (pI pg 182) P kc ks 12 _ _ SHF _
    refine AW.bipush (dq rfl) ?_
    show AW l (pI pg 182) P kc ks 14 _ _ SHF _
    refine AW.icmp_le (dq rfl) (tgt := 19) (by decide) (fun h3 => ?_) (fun h3 => ?_)
    · have _ := h3
      refine AW.iload_n (dq rfl) rfl ?_
      show AW l (pI pg 182) P kc ks 20 _ _ SHF _
      refine AW.tableIn (dq rfl) (by decide) (by decide) (off := 65) rfl (tgt := 85) (by decide) ?_
      show AW l (pI pg 182) P kc ks 85 [(0, .ref 58), (1, .int (Int32.ofInt 1))] [] SHF _
      refine AW.aload_n (dq rfl) rfl rfl ?_
      show AW l (pI pg 182) P kc ks 86 _ _ SHF _
      refine fw_get (dq rfl) (pg_ok.2.1 182 _ _ _ _ rfl) rfl (v := .long (M.2.1 58 22)) rfl ?_
      show AW l (pI pg 182) P kc ks 89 _ _ SHF _
      refine AW.bipush (dq rfl) ?_
      show AW l (pI pg 182) P kc ks 91 _ _ SHF _
      refine AW.bipush (dq rfl) ?_
      show AW l (pI pg 182) P kc ks 93 _ _ SHF _
      refine AW.bipush (dq rfl) ?_
      show AW l (pI pg 182) P kc ks 95 _ _ SHF _
      refine AW.bipush (dq rfl) ?_
      show AW l (pI pg 182) P kc ks 97 _ _ SHF _
      refine AW.iconst (dq rfl) ?_
      show AW l (pI pg 182) P kc ks 98 _ _ SHF _
      refine AW.iconst (dq rfl) ?_
      show AW l (pI pg 182) P kc ks 99 _ _ SHF _
      refine fw_callSJ (as := [.int ((Int8.ofInt 119).toInt32), .int ((Int8.ofInt 111).toInt32), .int ((Int8.ofInt 114).toInt32), .int ((Int8.ofInt 107).toInt32), .int (Int32.ofInt 0), .int (Int32.ofInt 0)]) (dq rfl) (pg_ok.2.2.1 182 _ _ _ _ rfl) (by decide +kernel) rfl rfl (spl_work_c hl0) (fun y4 M4 e4 q4 => ?_)
      obtain ⟨rfl, rfl⟩ := q4
      show AW l (pI pg 182) P kc ks 102 [(0, .ref 58), (1, .int (Int32.ofInt 1))] [.long (lN 769611), .long (M.2.1 58 22)] SHF _
      refine AW.lcmp (dq rfl) ?_
      show AW l (pI pg 182) P kc ks 103 _ _ SHF _
      refine AW.if_ne (dq rfl) (tgt := 110) (by decide) (fun h5 => ?_) (fun h5 => ?_)
      · have _ := h5
        refine AW.iconst (dq rfl) ?_
        show AW l (pI pg 182) P kc ks 111 _ _ SHF _
        refine AW.zret (dq rfl) rfl (by decide) ?_
        exact r6 h1 h3 h5
      · have _ := h5
        refine AW.iconst (dq rfl) ?_
        show AW l (pI pg 182) P kc ks 107 _ _ SHF _
        refine AW.goto (dq rfl) (tgt := 111) (by decide) ?_
        refine AW.zret (dq rfl) rfl (by decide) ?_
        exact r7 h1 h3 h5
    · have _ := h3
      refine AW.iconst (dq rfl) ?_
      show AW l (pI pg 182) P kc ks 18 _ _ SHF _
      refine AW.zret (dq rfl) rfl (by decide) ?_
      exact r8 h1 h3

theorem is2_0 {l : aL} {P : aP} {kc ks : Nat} {M : aM} (hJ : ∀ e ∈ RM, M.2.2 e.1 e.2.1 = e.2.2) (hl0 : l.1.stackTraces = false) (r2 : ∀ (h1 : ¬ (M.1 58 18 : Int32) = (Int32.ofInt 1 : Int32)), P (.inl (some (.int (Int32.ofInt 0)))) SHF M) (r6 : ∀ (h1 : (M.1 58 18 : Int32) = (Int32.ofInt 1 : Int32)), ∀ (h3 : (M.1 58 20 : Int32) ≤ ((Int8.ofInt 6).toInt32 : Int32)), ∀ (h5 : ¬ (lg_cmp (M.2.1 58 22) (lN 3118) : Int32) = 0), P (.inl (some (.int (Int32.ofInt 0)))) SHF M) (r7 : ∀ (h1 : (M.1 58 18 : Int32) = (Int32.ofInt 1 : Int32)), ∀ (h3 : (M.1 58 20 : Int32) ≤ ((Int8.ofInt 6).toInt32 : Int32)), ∀ (h5 : (lg_cmp (M.2.1 58 22) (lN 3118) : Int32) = 0), P (.inl (some (.int (Int32.ofInt 1)))) SHF M) (r8 : ∀ (h1 : (M.1 58 18 : Int32) = (Int32.ofInt 1 : Int32)), ∀ (h3 : ¬ ((M.1 58 20 : Int32) ≤ ((Int8.ofInt 6).toInt32 : Int32))), P (.inl (some (.int (Int32.ofInt 0)))) SHF M) : AW l (pI pg 182) P kc ks 0 [(0, .ref 58), (1, .int (Int32.ofInt 2))] [] SHF M := by
  refine AW.aload_n (dq rfl) rfl rfl ?_
  show AW l (pI pg 182) P kc ks 1 _ _ SHF _
  refine fw_get (dq rfl) (pg_ok.2.1 182 _ _ _ _ rfl) rfl (v := .int (M.1 58 18)) rfl ?_
  show AW l (pI pg 182) P kc ks 4 _ _ SHF _
  refine AW.iconst (dq rfl) ?_
  show AW l (pI pg 182) P kc ks 5 _ _ SHF _
  refine AW.icmp_ne (dq rfl) (tgt := 17) (by decide) (fun h1 => ?_) (fun h1 => ?_)
  · have _ := h1
    refine AW.iconst (dq rfl) ?_
    show AW l (pI pg 182) P kc ks 18 _ _ SHF _
    refine AW.zret (dq rfl) rfl (by decide) ?_
    exact r2 h1
  · have _ := h1
    refine AW.aload_n (dq rfl) rfl rfl ?_
    show AW l (pI pg 182) P kc ks 9 _ _ SHF _
    refine fw_get (dq rfl) (pg_ok.2.1 182 _ _ _ _ rfl) rfl (v := .int (M.1 58 20)) rfl ?_
    show AW l (pI pg 182) P kc ks 12 _ _ SHF _
    refine AW.bipush (dq rfl) ?_
    show AW l (pI pg 182) P kc ks 14 _ _ SHF _
    refine AW.icmp_le (dq rfl) (tgt := 19) (by decide) (fun h3 => ?_) (fun h3 => ?_)
    · have _ := h3
      refine AW.iload_n (dq rfl) rfl ?_
      show AW l (pI pg 182) P kc ks 20 _ _ SHF _
      refine AW.tableIn (dq rfl) (by decide) (by decide) (off := 92) rfl (tgt := 112) (by decide) ?_
      show AW l (pI pg 182) P kc ks 112 [(0, .ref 58), (1, .int (Int32.ofInt 2))] [] SHF _
      refine AW.aload_n (dq rfl) rfl rfl ?_
      show AW l (pI pg 182) P kc ks 113 _ _ SHF _
      refine fw_get (dq rfl) (pg_ok.2.1 182 _ _ _ _ rfl) rfl (v := .long (M.2.1 58 22)) rfl ?_
      show AW l (pI pg 182) P kc ks 116 _ _ SHF _
      refine AW.bipush (dq rfl) ?_
      show AW l (pI pg 182) P kc ks 118 _ _ SHF _
      refine AW.bipush (dq rfl) ?_
      show AW l (pI pg 182) P kc ks 120 _ _ SHF _
      refine AW.bipush (dq rfl) ?_
      show AW l (pI pg 182) P kc ks 122 _ _ SHF _
      refine AW.iconst (dq rfl) ?_
      show AW l (pI pg 182) P kc ks 123 _ _ SHF _
      refine AW.iconst (dq rfl) ?_
      show AW l (pI pg 182) P kc ks 124 _ _ SHF _
      refine AW.iconst (dq rfl) ?_
      show AW l (pI pg 182) P kc ks 125 _ _ SHF _
      refine fw_callSJ (as := [.int ((Int8.ofInt 99).toInt32), .int ((Int8.ofInt 97).toInt32), .int ((Int8.ofInt 110).toInt32), .int (Int32.ofInt 0), .int (Int32.ofInt 0), .int (Int32.ofInt 0)]) (dq rfl) (pg_ok.2.2.1 182 _ _ _ _ rfl) (by decide +kernel) rfl rfl (spl_can_c hl0) (fun y4 M4 e4 q4 => ?_)
      obtain ⟨rfl, rfl⟩ := q4
      show AW l (pI pg 182) P kc ks 128 [(0, .ref 58), (1, .int (Int32.ofInt 2))] [.long (lN 3118), .long (M.2.1 58 22)] SHF _
      refine AW.lcmp (dq rfl) ?_
      show AW l (pI pg 182) P kc ks 129 _ _ SHF _
      refine AW.if_ne (dq rfl) (tgt := 136) (by decide) (fun h5 => ?_) (fun h5 => ?_)
      · have _ := h5
        refine AW.iconst (dq rfl) ?_
        show AW l (pI pg 182) P kc ks 137 _ _ SHF _
        refine AW.zret (dq rfl) rfl (by decide) ?_
        exact r6 h1 h3 h5
      · have _ := h5
        refine AW.iconst (dq rfl) ?_
        show AW l (pI pg 182) P kc ks 133 _ _ SHF _
        refine AW.goto (dq rfl) (tgt := 137) (by decide) ?_
        refine AW.zret (dq rfl) rfl (by decide) ?_
        exact r7 h1 h3 h5
    · have _ := h3
      refine AW.iconst (dq rfl) ?_
      show AW l (pI pg 182) P kc ks 18 _ _ SHF _
      refine AW.zret (dq rfl) rfl (by decide) ?_
      exact r8 h1 h3

theorem is3_0 {l : aL} {P : aP} {kc ks : Nat} {M : aM} (hJ : ∀ e ∈ RM, M.2.2 e.1 e.2.1 = e.2.2) (hl0 : l.1.stackTraces = false) (r2 : ∀ (h1 : ¬ (M.1 58 18 : Int32) = (Int32.ofInt 1 : Int32)), P (.inl (some (.int (Int32.ofInt 0)))) SHF M) (r6 : ∀ (h1 : (M.1 58 18 : Int32) = (Int32.ofInt 1 : Int32)), ∀ (h3 : (M.1 58 20 : Int32) ≤ ((Int8.ofInt 6).toInt32 : Int32)), ∀ (h5 : ¬ (lg_cmp (M.2.1 58 22) (lN 12748366) : Int32) = 0), P (.inl (some (.int (Int32.ofInt 0)))) SHF M) (r7 : ∀ (h1 : (M.1 58 18 : Int32) = (Int32.ofInt 1 : Int32)), ∀ (h3 : (M.1 58 20 : Int32) ≤ ((Int8.ofInt 6).toInt32 : Int32)), ∀ (h5 : (lg_cmp (M.2.1 58 22) (lN 12748366) : Int32) = 0), P (.inl (some (.int (Int32.ofInt 1)))) SHF M) (r8 : ∀ (h1 : (M.1 58 18 : Int32) = (Int32.ofInt 1 : Int32)), ∀ (h3 : ¬ ((M.1 58 20 : Int32) ≤ ((Int8.ofInt 6).toInt32 : Int32))), P (.inl (some (.int (Int32.ofInt 0)))) SHF M) : AW l (pI pg 182) P kc ks 0 [(0, .ref 58), (1, .int (Int32.ofInt 3))] [] SHF M := by
  refine AW.aload_n (dq rfl) rfl rfl ?_
  show AW l (pI pg 182) P kc ks 1 _ _ SHF _
  refine fw_get (dq rfl) (pg_ok.2.1 182 _ _ _ _ rfl) rfl (v := .int (M.1 58 18)) rfl ?_
  show AW l (pI pg 182) P kc ks 4 _ _ SHF _
  refine AW.iconst (dq rfl) ?_
  show AW l (pI pg 182) P kc ks 5 _ _ SHF _
  refine AW.icmp_ne (dq rfl) (tgt := 17) (by decide) (fun h1 => ?_) (fun h1 => ?_)
  · have _ := h1
    refine AW.iconst (dq rfl) ?_
    show AW l (pI pg 182) P kc ks 18 _ _ SHF _
    refine AW.zret (dq rfl) rfl (by decide) ?_
    exact r2 h1
  · have _ := h1
    refine AW.aload_n (dq rfl) rfl rfl ?_
    show AW l (pI pg 182) P kc ks 9 _ _ SHF _
    refine fw_get (dq rfl) (pg_ok.2.1 182 _ _ _ _ rfl) rfl (v := .int (M.1 58 20)) rfl ?_
    show AW l (pI pg 182) P kc ks 12 _ _ SHF _
    refine AW.bipush (dq rfl) ?_
    show AW l (pI pg 182) P kc ks 14 _ _ SHF _
    refine AW.icmp_le (dq rfl) (tgt := 19) (by decide) (fun h3 => ?_) (fun h3 => ?_)
    · have _ := h3
      refine AW.iload_n (dq rfl) rfl ?_
      show AW l (pI pg 182) P kc ks 20 _ _ SHF _
      refine AW.tableIn (dq rfl) (by decide) (by decide) (off := 118) rfl (tgt := 138) (by decide) ?_
      show AW l (pI pg 182) P kc ks 138 [(0, .ref 58), (1, .int (Int32.ofInt 3))] [] SHF _
      refine AW.aload_n (dq rfl) rfl rfl ?_
      show AW l (pI pg 182) P kc ks 139 _ _ SHF _
      refine fw_get (dq rfl) (pg_ok.2.1 182 _ _ _ _ rfl) rfl (v := .long (M.2.1 58 22)) rfl ?_
      show AW l (pI pg 182) P kc ks 142 _ _ SHF _
      refine AW.bipush (dq rfl) ?_
      show AW l (pI pg 182) P kc ks 144 _ _ SHF _
      refine AW.bipush (dq rfl) ?_
      show AW l (pI pg 182) P kc ks 146 _ _ SHF _
      refine AW.bipush (dq rfl) ?_
      show AW l (pI pg 182) P kc ks 148 _ _ SHF _
      refine AW.bipush (dq rfl) ?_
      show AW l (pI pg 182) P kc ks 150 _ _ SHF _
      refine AW.bipush (dq rfl) ?_
      show AW l (pI pg 182) P kc ks 152 _ _ SHF _
      refine AW.iconst (dq rfl) ?_
      show AW l (pI pg 182) P kc ks 153 _ _ SHF _
      refine fw_callSJ (as := [.int ((Int8.ofInt 108).toInt32), .int ((Int8.ofInt 101).toInt32), .int ((Int8.ofInt 97).toInt32), .int ((Int8.ofInt 114).toInt32), .int ((Int8.ofInt 110).toInt32), .int (Int32.ofInt 0)]) (dq rfl) (pg_ok.2.2.1 182 _ _ _ _ rfl) (by decide +kernel) rfl rfl (spl_learn_c hl0) (fun y4 M4 e4 q4 => ?_)
      obtain ⟨rfl, rfl⟩ := q4
      show AW l (pI pg 182) P kc ks 156 [(0, .ref 58), (1, .int (Int32.ofInt 3))] [.long (lN 12748366), .long (M.2.1 58 22)] SHF _
      refine AW.lcmp (dq rfl) ?_
      show AW l (pI pg 182) P kc ks 157 _ _ SHF _
      refine AW.if_ne (dq rfl) (tgt := 164) (by decide) (fun h5 => ?_) (fun h5 => ?_)
      · have _ := h5
        refine AW.iconst (dq rfl) ?_
        show AW l (pI pg 182) P kc ks 165 _ _ SHF _
        refine AW.zret (dq rfl) rfl (by decide) ?_
        exact r6 h1 h3 h5
      · have _ := h5
        refine AW.iconst (dq rfl) ?_
        show AW l (pI pg 182) P kc ks 161 _ _ SHF _
        refine AW.goto (dq rfl) (tgt := 165) (by decide) ?_
        refine AW.zret (dq rfl) rfl (by decide) ?_
        exact r7 h1 h3 h5
    · have _ := h3
      refine AW.iconst (dq rfl) ?_
      show AW l (pI pg 182) P kc ks 18 _ _ SHF _
      refine AW.zret (dq rfl) rfl (by decide) ?_
      exact r8 h1 h3

theorem is4_0 {l : aL} {P : aP} {kc ks : Nat} {M : aM} (hJ : ∀ e ∈ RM, M.2.2 e.1 e.2.1 = e.2.2) (hl0 : l.1.stackTraces = false) (r2 : ∀ (h1 : ¬ (M.1 58 18 : Int32) = (Int32.ofInt 1 : Int32)), P (.inl (some (.int (Int32.ofInt 0)))) SHF M) (r6 : ∀ (h1 : (M.1 58 18 : Int32) = (Int32.ofInt 1 : Int32)), ∀ (h3 : (M.1 58 20 : Int32) ≤ ((Int8.ofInt 6).toInt32 : Int32)), ∀ (h5 : ¬ (lg_cmp (M.2.1 58 22) (lN 217652404) : Int32) = 0), P (.inl (some (.int (Int32.ofInt 0)))) SHF M) (r7 : ∀ (h1 : (M.1 58 18 : Int32) = (Int32.ofInt 1 : Int32)), ∀ (h3 : (M.1 58 20 : Int32) ≤ ((Int8.ofInt 6).toInt32 : Int32)), ∀ (h5 : (lg_cmp (M.2.1 58 22) (lN 217652404) : Int32) = 0), P (.inl (some (.int (Int32.ofInt 1)))) SHF M) (r8 : ∀ (h1 : (M.1 58 18 : Int32) = (Int32.ofInt 1 : Int32)), ∀ (h3 : ¬ ((M.1 58 20 : Int32) ≤ ((Int8.ofInt 6).toInt32 : Int32))), P (.inl (some (.int (Int32.ofInt 0)))) SHF M) : AW l (pI pg 182) P kc ks 0 [(0, .ref 58), (1, .int (Int32.ofInt 4))] [] SHF M := by
  refine AW.aload_n (dq rfl) rfl rfl ?_
  show AW l (pI pg 182) P kc ks 1 _ _ SHF _
  refine fw_get (dq rfl) (pg_ok.2.1 182 _ _ _ _ rfl) rfl (v := .int (M.1 58 18)) rfl ?_
  show AW l (pI pg 182) P kc ks 4 _ _ SHF _
  refine AW.iconst (dq rfl) ?_
  show AW l (pI pg 182) P kc ks 5 _ _ SHF _
  refine AW.icmp_ne (dq rfl) (tgt := 17) (by decide) (fun h1 => ?_) (fun h1 => ?_)
  · have _ := h1
    refine AW.iconst (dq rfl) ?_
    show AW l (pI pg 182) P kc ks 18 _ _ SHF _
    refine AW.zret (dq rfl) rfl (by decide) ?_
    exact r2 h1
  · have _ := h1
    refine AW.aload_n (dq rfl) rfl rfl ?_
    show AW l (pI pg 182) P kc ks 9 _ _ SHF _
    refine fw_get (dq rfl) (pg_ok.2.1 182 _ _ _ _ rfl) rfl (v := .int (M.1 58 20)) rfl ?_
    show AW l (pI pg 182) P kc ks 12 _ _ SHF _
    refine AW.bipush (dq rfl) ?_
    show AW l (pI pg 182) P kc ks 14 _ _ SHF _
    refine AW.icmp_le (dq rfl) (tgt := 19) (by decide) (fun h3 => ?_) (fun h3 => ?_)
    · have _ := h3
      refine AW.iload_n (dq rfl) rfl ?_
      show AW l (pI pg 182) P kc ks 20 _ _ SHF _
      refine AW.tableIn (dq rfl) (by decide) (by decide) (off := 146) rfl (tgt := 166) (by decide) ?_
      show AW l (pI pg 182) P kc ks 166 [(0, .ref 58), (1, .int (Int32.ofInt 4))] [] SHF _
      refine AW.aload_n (dq rfl) rfl rfl ?_
      show AW l (pI pg 182) P kc ks 167 _ _ SHF _
      refine fw_get (dq rfl) (pg_ok.2.1 182 _ _ _ _ rfl) rfl (v := .long (M.2.1 58 22)) rfl ?_
      show AW l (pI pg 182) P kc ks 170 _ _ SHF _
      refine AW.bipush (dq rfl) ?_
      show AW l (pI pg 182) P kc ks 172 _ _ SHF _
      refine AW.bipush (dq rfl) ?_
      show AW l (pI pg 182) P kc ks 174 _ _ SHF _
      refine AW.bipush (dq rfl) ?_
      show AW l (pI pg 182) P kc ks 176 _ _ SHF _
      refine AW.bipush (dq rfl) ?_
      show AW l (pI pg 182) P kc ks 178 _ _ SHF _
      refine AW.bipush (dq rfl) ?_
      show AW l (pI pg 182) P kc ks 180 _ _ SHF _
      refine AW.bipush (dq rfl) ?_
      show AW l (pI pg 182) P kc ks 182 _ _ SHF _
      refine fw_callSJ (as := [.int ((Int8.ofInt 102).toInt32), .int ((Int8.ofInt 111).toInt32), .int ((Int8.ofInt 114).toInt32), .int ((Int8.ofInt 103).toInt32), .int ((Int8.ofInt 101).toInt32), .int ((Int8.ofInt 116).toInt32)]) (dq rfl) (pg_ok.2.2.1 182 _ _ _ _ rfl) (by decide +kernel) rfl rfl (spl_forget_c hl0) (fun y4 M4 e4 q4 => ?_)
      obtain ⟨rfl, rfl⟩ := q4
      show AW l (pI pg 182) P kc ks 185 [(0, .ref 58), (1, .int (Int32.ofInt 4))] [.long (lN 217652404), .long (M.2.1 58 22)] SHF _
      refine AW.lcmp (dq rfl) ?_
      show AW l (pI pg 182) P kc ks 186 _ _ SHF _
      refine AW.if_ne (dq rfl) (tgt := 193) (by decide) (fun h5 => ?_) (fun h5 => ?_)
      · have _ := h5
        refine AW.iconst (dq rfl) ?_
        show AW l (pI pg 182) P kc ks 194 _ _ SHF _
        refine AW.zret (dq rfl) rfl (by decide) ?_
        exact r6 h1 h3 h5
      · have _ := h5
        refine AW.iconst (dq rfl) ?_
        show AW l (pI pg 182) P kc ks 190 _ _ SHF _
        refine AW.goto (dq rfl) (tgt := 194) (by decide) ?_
        refine AW.zret (dq rfl) rfl (by decide) ?_
        exact r7 h1 h3 h5
    · have _ := h3
      refine AW.iconst (dq rfl) ?_
      show AW l (pI pg 182) P kc ks 18 _ _ SHF _
      refine AW.zret (dq rfl) rfl (by decide) ?_
      exact r8 h1 h3

theorem is5_0 {l : aL} {P : aP} {kc ks : Nat} {M : aM} (hJ : ∀ e ∈ RM, M.2.2 e.1 e.2.1 = e.2.2) (hl0 : l.1.stackTraces = false) (r2 : ∀ (h1 : ¬ (M.1 58 18 : Int32) = (Int32.ofInt 1 : Int32)), P (.inl (some (.int (Int32.ofInt 0)))) SHF M) (r6 : ∀ (h1 : (M.1 58 18 : Int32) = (Int32.ofInt 1 : Int32)), ∀ (h3 : (M.1 58 20 : Int32) ≤ ((Int8.ofInt 6).toInt32 : Int32)), ∀ (h5 : ¬ (lg_cmp (M.2.1 58 22) (lN 4785902) : Int32) = 0), P (.inl (some (.int (Int32.ofInt 0)))) SHF M) (r7 : ∀ (h1 : (M.1 58 18 : Int32) = (Int32.ofInt 1 : Int32)), ∀ (h3 : (M.1 58 20 : Int32) ≤ ((Int8.ofInt 6).toInt32 : Int32)), ∀ (h5 : (lg_cmp (M.2.1 58 22) (lN 4785902) : Int32) = 0), P (.inl (some (.int (Int32.ofInt 1)))) SHF M) (r8 : ∀ (h1 : (M.1 58 18 : Int32) = (Int32.ofInt 1 : Int32)), ∀ (h3 : ¬ ((M.1 58 20 : Int32) ≤ ((Int8.ofInt 6).toInt32 : Int32))), P (.inl (some (.int (Int32.ofInt 0)))) SHF M) : AW l (pI pg 182) P kc ks 0 [(0, .ref 58), (1, .int (Int32.ofInt 5))] [] SHF M := by
  refine AW.aload_n (dq rfl) rfl rfl ?_
  show AW l (pI pg 182) P kc ks 1 _ _ SHF _
  refine fw_get (dq rfl) (pg_ok.2.1 182 _ _ _ _ rfl) rfl (v := .int (M.1 58 18)) rfl ?_
  show AW l (pI pg 182) P kc ks 4 _ _ SHF _
  refine AW.iconst (dq rfl) ?_
  show AW l (pI pg 182) P kc ks 5 _ _ SHF _
  refine AW.icmp_ne (dq rfl) (tgt := 17) (by decide) (fun h1 => ?_) (fun h1 => ?_)
  · have _ := h1
    refine AW.iconst (dq rfl) ?_
    show AW l (pI pg 182) P kc ks 18 _ _ SHF _
    refine AW.zret (dq rfl) rfl (by decide) ?_
    exact r2 h1
  · have _ := h1
    refine AW.aload_n (dq rfl) rfl rfl ?_
    show AW l (pI pg 182) P kc ks 9 _ _ SHF _
    refine fw_get (dq rfl) (pg_ok.2.1 182 _ _ _ _ rfl) rfl (v := .int (M.1 58 20)) rfl ?_
    show AW l (pI pg 182) P kc ks 12 _ _ SHF _
    refine AW.bipush (dq rfl) ?_
    show AW l (pI pg 182) P kc ks 14 _ _ SHF _
    refine AW.icmp_le (dq rfl) (tgt := 19) (by decide) (fun h3 => ?_) (fun h3 => ?_)
    · have _ := h3
      refine AW.iload_n (dq rfl) rfl ?_
      show AW l (pI pg 182) P kc ks 20 _ _ SHF _
      refine AW.tableOut (dq rfl) (by decide) (tgt := 195) (by decide) ?_
      show AW l (pI pg 182) P kc ks 195 [(0, .ref 58), (1, .int (Int32.ofInt 5))] [] SHF _
      refine AW.aload_n (dq rfl) rfl rfl ?_
      show AW l (pI pg 182) P kc ks 196 _ _ SHF _
      refine fw_get (dq rfl) (pg_ok.2.1 182 _ _ _ _ rfl) rfl (v := .long (M.2.1 58 22)) rfl ?_
      show AW l (pI pg 182) P kc ks 199 _ _ SHF _
      refine AW.bipush (dq rfl) ?_
      show AW l (pI pg 182) P kc ks 201 _ _ SHF _
      refine AW.bipush (dq rfl) ?_
      show AW l (pI pg 182) P kc ks 203 _ _ SHF _
      refine AW.bipush (dq rfl) ?_
      show AW l (pI pg 182) P kc ks 205 _ _ SHF _
      refine AW.bipush (dq rfl) ?_
      show AW l (pI pg 182) P kc ks 207 _ _ SHF _
      refine AW.bipush (dq rfl) ?_
      show AW l (pI pg 182) P kc ks 209 _ _ SHF _
      refine AW.iconst (dq rfl) ?_
      show AW l (pI pg 182) P kc ks 210 _ _ SHF _
      refine fw_callSJ (as := [.int ((Int8.ofInt 100).toInt32), .int ((Int8.ofInt 114).toInt32), .int ((Int8.ofInt 97).toInt32), .int ((Int8.ofInt 119).toInt32), .int ((Int8.ofInt 110).toInt32), .int (Int32.ofInt 0)]) (dq rfl) (pg_ok.2.2.1 182 _ _ _ _ rfl) (by decide +kernel) rfl rfl (spl_drawn_c hl0) (fun y4 M4 e4 q4 => ?_)
      obtain ⟨rfl, rfl⟩ := q4
      show AW l (pI pg 182) P kc ks 213 [(0, .ref 58), (1, .int (Int32.ofInt 5))] [.long (lN 4785902), .long (M.2.1 58 22)] SHF _
      refine AW.lcmp (dq rfl) ?_
      show AW l (pI pg 182) P kc ks 214 _ _ SHF _
      refine AW.if_ne (dq rfl) (tgt := 221) (by decide) (fun h5 => ?_) (fun h5 => ?_)
      · have _ := h5
        refine AW.iconst (dq rfl) ?_
        show AW l (pI pg 182) P kc ks 222 _ _ SHF _
        refine AW.zret (dq rfl) rfl (by decide) ?_
        exact r6 h1 h3 h5
      · have _ := h5
        refine AW.iconst (dq rfl) ?_
        show AW l (pI pg 182) P kc ks 218 _ _ SHF _
        refine AW.goto (dq rfl) (tgt := 222) (by decide) ?_
        refine AW.zret (dq rfl) rfl (by decide) ?_
        exact r7 h1 h3 h5
    · have _ := h3
      refine AW.iconst (dq rfl) ?_
      show AW l (pI pg 182) P kc ks 18 _ _ SHF _
      refine AW.zret (dq rfl) rfl (by decide) ?_
      exact r8 h1 h3

