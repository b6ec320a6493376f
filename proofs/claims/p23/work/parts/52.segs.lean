/-! stretches for worth, printed by wip/gen/segs_c.py -/
def bcE (x : Int32) : Int32 := ((((((((x) - ((((x).toUInt32 >>> ((Int32.ofInt 1).toUInt32 &&& Int32.toUInt32 31)).toInt32) &&& (1431655765))) &&& (858993459)) + (((((x) - ((((x).toUInt32 >>> ((Int32.ofInt 1).toUInt32 &&& Int32.toUInt32 31)).toInt32) &&& (1431655765))).toUInt32 >>> ((Int32.ofInt 2).toUInt32 &&& Int32.toUInt32 31)).toInt32) &&& (858993459))) + ((((((x) - ((((x).toUInt32 >>> ((Int32.ofInt 1).toUInt32 &&& Int32.toUInt32 31)).toInt32) &&& (1431655765))) &&& (858993459)) + (((((x) - ((((x).toUInt32 >>> ((Int32.ofInt 1).toUInt32 &&& Int32.toUInt32 31)).toInt32) &&& (1431655765))).toUInt32 >>> ((Int32.ofInt 2).toUInt32 &&& Int32.toUInt32 31)).toInt32) &&& (858993459))).toUInt32 >>> ((Int32.ofInt 4).toUInt32 &&& Int32.toUInt32 31)).toInt32)) &&& (252645135)) + ((((((((x) - ((((x).toUInt32 >>> ((Int32.ofInt 1).toUInt32 &&& Int32.toUInt32 31)).toInt32) &&& (1431655765))) &&& (858993459)) + (((((x) - ((((x).toUInt32 >>> ((Int32.ofInt 1).toUInt32 &&& Int32.toUInt32 31)).toInt32) &&& (1431655765))).toUInt32 >>> ((Int32.ofInt 2).toUInt32 &&& Int32.toUInt32 31)).toInt32) &&& (858993459))) + ((((((x) - ((((x).toUInt32 >>> ((Int32.ofInt 1).toUInt32 &&& Int32.toUInt32 31)).toInt32) &&& (1431655765))) &&& (858993459)) + (((((x) - ((((x).toUInt32 >>> ((Int32.ofInt 1).toUInt32 &&& Int32.toUInt32 31)).toInt32) &&& (1431655765))).toUInt32 >>> ((Int32.ofInt 2).toUInt32 &&& Int32.toUInt32 31)).toInt32) &&& (858993459))).toUInt32 >>> ((Int32.ofInt 4).toUInt32 &&& Int32.toUInt32 31)).toInt32)) &&& (252645135)).toUInt32 >>> (((Int8.ofInt 8).toInt32).toUInt32 &&& Int32.toUInt32 31)).toInt32)) + (((((((((x) - ((((x).toUInt32 >>> ((Int32.ofInt 1).toUInt32 &&& Int32.toUInt32 31)).toInt32) &&& (1431655765))) &&& (858993459)) + (((((x) - ((((x).toUInt32 >>> ((Int32.ofInt 1).toUInt32 &&& Int32.toUInt32 31)).toInt32) &&& (1431655765))).toUInt32 >>> ((Int32.ofInt 2).toUInt32 &&& Int32.toUInt32 31)).toInt32) &&& (858993459))) + ((((((x) - ((((x).toUInt32 >>> ((Int32.ofInt 1).toUInt32 &&& Int32.toUInt32 31)).toInt32) &&& (1431655765))) &&& (858993459)) + (((((x) - ((((x).toUInt32 >>> ((Int32.ofInt 1).toUInt32 &&& Int32.toUInt32 31)).toInt32) &&& (1431655765))).toUInt32 >>> ((Int32.ofInt 2).toUInt32 &&& Int32.toUInt32 31)).toInt32) &&& (858993459))).toUInt32 >>> ((Int32.ofInt 4).toUInt32 &&& Int32.toUInt32 31)).toInt32)) &&& (252645135)) + ((((((((x) - ((((x).toUInt32 >>> ((Int32.ofInt 1).toUInt32 &&& Int32.toUInt32 31)).toInt32) &&& (1431655765))) &&& (858993459)) + (((((x) - ((((x).toUInt32 >>> ((Int32.ofInt 1).toUInt32 &&& Int32.toUInt32 31)).toInt32) &&& (1431655765))).toUInt32 >>> ((Int32.ofInt 2).toUInt32 &&& Int32.toUInt32 31)).toInt32) &&& (858993459))) + ((((((x) - ((((x).toUInt32 >>> ((Int32.ofInt 1).toUInt32 &&& Int32.toUInt32 31)).toInt32) &&& (1431655765))) &&& (858993459)) + (((((x) - ((((x).toUInt32 >>> ((Int32.ofInt 1).toUInt32 &&& Int32.toUInt32 31)).toInt32) &&& (1431655765))).toUInt32 >>> ((Int32.ofInt 2).toUInt32 &&& Int32.toUInt32 31)).toInt32) &&& (858993459))).toUInt32 >>> ((Int32.ofInt 4).toUInt32 &&& Int32.toUInt32 31)).toInt32)) &&& (252645135)).toUInt32 >>> (((Int8.ofInt 8).toInt32).toUInt32 &&& Int32.toUInt32 31)).toInt32)).toUInt32 >>> (((Int8.ofInt 16).toInt32).toUInt32 &&& Int32.toUInt32 31)).toInt32)) &&& ((Int8.ofInt 63).toInt32)
theorem s21_0 {l : aL} {P : aP} {kc ks : Nat} {x : Int32} {M : aM} (hJ : ∀ e ∈ RM, M.2.2 e.1 e.2.1 = e.2.2)  (r1 : P (.inl (some (.int (((((((((x) - ((((x).toUInt32 >>> ((Int32.ofInt 1).toUInt32 &&& Int32.toUInt32 31)).toInt32) &&& (1431655765))) &&& (858993459)) + (((((x) - ((((x).toUInt32 >>> ((Int32.ofInt 1).toUInt32 &&& Int32.toUInt32 31)).toInt32) &&& (1431655765))).toUInt32 >>> ((Int32.ofInt 2).toUInt32 &&& Int32.toUInt32 31)).toInt32) &&& (858993459))) + ((((((x) - ((((x).toUInt32 >>> ((Int32.ofInt 1).toUInt32 &&& Int32.toUInt32 31)).toInt32) &&& (1431655765))) &&& (858993459)) + (((((x) - ((((x).toUInt32 >>> ((Int32.ofInt 1).toUInt32 &&& Int32.toUInt32 31)).toInt32) &&& (1431655765))).toUInt32 >>> ((Int32.ofInt 2).toUInt32 &&& Int32.toUInt32 31)).toInt32) &&& (858993459))).toUInt32 >>> ((Int32.ofInt 4).toUInt32 &&& Int32.toUInt32 31)).toInt32)) &&& (252645135)) + ((((((((x) - ((((x).toUInt32 >>> ((Int32.ofInt 1).toUInt32 &&& Int32.toUInt32 31)).toInt32) &&& (1431655765))) &&& (858993459)) + (((((x) - ((((x).toUInt32 >>> ((Int32.ofInt 1).toUInt32 &&& Int32.toUInt32 31)).toInt32) &&& (1431655765))).toUInt32 >>> ((Int32.ofInt 2).toUInt32 &&& Int32.toUInt32 31)).toInt32) &&& (858993459))) + ((((((x) - ((((x).toUInt32 >>> ((Int32.ofInt 1).toUInt32 &&& Int32.toUInt32 31)).toInt32) &&& (1431655765))) &&& (858993459)) + (((((x) - ((((x).toUInt32 >>> ((Int32.ofInt 1).toUInt32 &&& Int32.toUInt32 31)).toInt32) &&& (1431655765))).toUInt32 >>> ((Int32.ofInt 2).toUInt32 &&& Int32.toUInt32 31)).toInt32) &&& (858993459))).toUInt32 >>> ((Int32.ofInt 4).toUInt32 &&& Int32.toUInt32 31)).toInt32)) &&& (252645135)).toUInt32 >>> (((Int8.ofInt 8).toInt32).toUInt32 &&& Int32.toUInt32 31)).toInt32)) + (((((((((x) - ((((x).toUInt32 >>> ((Int32.ofInt 1).toUInt32 &&& Int32.toUInt32 31)).toInt32) &&& (1431655765))) &&& (858993459)) + (((((x) - ((((x).toUInt32 >>> ((Int32.ofInt 1).toUInt32 &&& Int32.toUInt32 31)).toInt32) &&& (1431655765))).toUInt32 >>> ((Int32.ofInt 2).toUInt32 &&& Int32.toUInt32 31)).toInt32) &&& (858993459))) + ((((((x) - ((((x).toUInt32 >>> ((Int32.ofInt 1).toUInt32 &&& Int32.toUInt32 31)).toInt32) &&& (1431655765))) &&& (858993459)) + (((((x) - ((((x).toUInt32 >>> ((Int32.ofInt 1).toUInt32 &&& Int32.toUInt32 31)).toInt32) &&& (1431655765))).toUInt32 >>> ((Int32.ofInt 2).toUInt32 &&& Int32.toUInt32 31)).toInt32) &&& (858993459))).toUInt32 >>> ((Int32.ofInt 4).toUInt32 &&& Int32.toUInt32 31)).toInt32)) &&& (252645135)) + ((((((((x) - ((((x).toUInt32 >>> ((Int32.ofInt 1).toUInt32 &&& Int32.toUInt32 31)).toInt32) &&& (1431655765))) &&& (858993459)) + (((((x) - ((((x).toUInt32 >>> ((Int32.ofInt 1).toUInt32 &&& Int32.toUInt32 31)).toInt32) &&& (1431655765))).toUInt32 >>> ((Int32.ofInt 2).toUInt32 &&& Int32.toUInt32 31)).toInt32) &&& (858993459))) + ((((((x) - ((((x).toUInt32 >>> ((Int32.ofInt 1).toUInt32 &&& Int32.toUInt32 31)).toInt32) &&& (1431655765))) &&& (858993459)) + (((((x) - ((((x).toUInt32 >>> ((Int32.ofInt 1).toUInt32 &&& Int32.toUInt32 31)).toInt32) &&& (1431655765))).toUInt32 >>> ((Int32.ofInt 2).toUInt32 &&& Int32.toUInt32 31)).toInt32) &&& (858993459))).toUInt32 >>> ((Int32.ofInt 4).toUInt32 &&& Int32.toUInt32 31)).toInt32)) &&& (252645135)).toUInt32 >>> (((Int8.ofInt 8).toInt32).toUInt32 &&& Int32.toUInt32 31)).toInt32)).toUInt32 >>> (((Int8.ofInt 16).toInt32).toUInt32 &&& Int32.toUInt32 31)).toInt32)) &&& ((Int8.ofInt 63).toInt32))))) SHF M) : AW l (pI pg 21) P kc ks 0 [(0, .int (x))] [] SHF M := by
  refine AW.iload_n (dq rfl) rfl ?_
  show AW l (pI pg 21) P kc ks 1 _ _ SHF _
  refine AW.iload_n (dq rfl) rfl ?_
  show AW l (pI pg 21) P kc ks 2 _ _ SHF _
  refine AW.iconst (dq rfl) ?_
  show AW l (pI pg 21) P kc ks 3 _ _ SHF _
  refine AW.iushr (dq rfl) ?_
  show AW l (pI pg 21) P kc ks 4 _ _ SHF _
  refine AW.ldcw (dq rfl) (pg_ok.2.2.2.2.1 21 _ 1431655765 rfl) ?_
  show AW l (pI pg 21) P kc ks 7 _ _ SHF _
  refine AW.iand (dq rfl) ?_
  show AW l (pI pg 21) P kc ks 8 _ _ SHF _
  refine AW.isub (dq rfl) ?_
  show AW l (pI pg 21) P kc ks 9 _ _ SHF _
  refine AW.istore_n (dq rfl) (by decide +kernel) ?_
  show AW l (pI pg 21) P kc ks 10 [(0, .int ((x) - ((((x).toUInt32 >>> ((Int32.ofInt 1).toUInt32 &&& Int32.toUInt32 31)).toInt32) &&& (1431655765))))] [] SHF _
  refine AW.iload_n (dq rfl) rfl ?_
  show AW l (pI pg 21) P kc ks 11 _ _ SHF _
  refine AW.ldcw (dq rfl) (pg_ok.2.2.2.2.1 21 _ 858993459 rfl) ?_
  show AW l (pI pg 21) P kc ks 14 _ _ SHF _
  refine AW.iand (dq rfl) ?_
  show AW l (pI pg 21) P kc ks 15 _ _ SHF _
  refine AW.iload_n (dq rfl) rfl ?_
  show AW l (pI pg 21) P kc ks 16 _ _ SHF _
  refine AW.iconst (dq rfl) ?_
  show AW l (pI pg 21) P kc ks 17 _ _ SHF _
  refine AW.iushr (dq rfl) ?_
  show AW l (pI pg 21) P kc ks 18 _ _ SHF _
  refine AW.ldcw (dq rfl) (pg_ok.2.2.2.2.1 21 _ 858993459 rfl) ?_
  show AW l (pI pg 21) P kc ks 21 _ _ SHF _
  refine AW.iand (dq rfl) ?_
  show AW l (pI pg 21) P kc ks 22 _ _ SHF _
  refine AW.iadd (dq rfl) ?_
  show AW l (pI pg 21) P kc ks 23 _ _ SHF _
  refine AW.istore_n (dq rfl) (by decide +kernel) ?_
  show AW l (pI pg 21) P kc ks 24 [(0, .int ((((x) - ((((x).toUInt32 >>> ((Int32.ofInt 1).toUInt32 &&& Int32.toUInt32 31)).toInt32) &&& (1431655765))) &&& (858993459)) + (((((x) - ((((x).toUInt32 >>> ((Int32.ofInt 1).toUInt32 &&& Int32.toUInt32 31)).toInt32) &&& (1431655765))).toUInt32 >>> ((Int32.ofInt 2).toUInt32 &&& Int32.toUInt32 31)).toInt32) &&& (858993459))))] [] SHF _
  refine AW.iload_n (dq rfl) rfl ?_
  show AW l (pI pg 21) P kc ks 25 _ _ SHF _
  refine AW.iload_n (dq rfl) rfl ?_
  show AW l (pI pg 21) P kc ks 26 _ _ SHF _
  refine AW.iconst (dq rfl) ?_
  show AW l (pI pg 21) P kc ks 27 _ _ SHF _
  refine AW.iushr (dq rfl) ?_
  show AW l (pI pg 21) P kc ks 28 _ _ SHF _
  refine AW.iadd (dq rfl) ?_
  show AW l (pI pg 21) P kc ks 29 _ _ SHF _
  refine AW.ldcw (dq rfl) (pg_ok.2.2.2.2.1 21 _ 252645135 rfl) ?_
  show AW l (pI pg 21) P kc ks 32 _ _ SHF _
  refine AW.iand (dq rfl) ?_
  show AW l (pI pg 21) P kc ks 33 _ _ SHF _
  refine AW.istore_n (dq rfl) (by decide +kernel) ?_
  show AW l (pI pg 21) P kc ks 34 [(0, .int ((((((x) - ((((x).toUInt32 >>> ((Int32.ofInt 1).toUInt32 &&& Int32.toUInt32 31)).toInt32) &&& (1431655765))) &&& (858993459)) + (((((x) - ((((x).toUInt32 >>> ((Int32.ofInt 1).toUInt32 &&& Int32.toUInt32 31)).toInt32) &&& (1431655765))).toUInt32 >>> ((Int32.ofInt 2).toUInt32 &&& Int32.toUInt32 31)).toInt32) &&& (858993459))) + ((((((x) - ((((x).toUInt32 >>> ((Int32.ofInt 1).toUInt32 &&& Int32.toUInt32 31)).toInt32) &&& (1431655765))) &&& (858993459)) + (((((x) - ((((x).toUInt32 >>> ((Int32.ofInt 1).toUInt32 &&& Int32.toUInt32 31)).toInt32) &&& (1431655765))).toUInt32 >>> ((Int32.ofInt 2).toUInt32 &&& Int32.toUInt32 31)).toInt32) &&& (858993459))).toUInt32 >>> ((Int32.ofInt 4).toUInt32 &&& Int32.toUInt32 31)).toInt32)) &&& (252645135)))] [] SHF _
  refine AW.iload_n (dq rfl) rfl ?_
  show AW l (pI pg 21) P kc ks 35 _ _ SHF _
  refine AW.iload_n (dq rfl) rfl ?_
  show AW l (pI pg 21) P kc ks 36 _ _ SHF _
  refine AW.bipush (dq rfl) ?_
  show AW l (pI pg 21) P kc ks 38 _ _ SHF _
  refine AW.iushr (dq rfl) ?_
  show AW l (pI pg 21) P kc ks 39 _ _ SHF _
  refine AW.iadd (dq rfl) ?_
  show AW l (pI pg 21) P kc ks 40 _ _ SHF _
  refine AW.istore_n (dq rfl) (by decide +kernel) ?_
  show AW l (pI pg 21) P kc ks 41 [(0, .int (((((((x) - ((((x).toUInt32 >>> ((Int32.ofInt 1).toUInt32 &&& Int32.toUInt32 31)).toInt32) &&& (1431655765))) &&& (858993459)) + (((((x) - ((((x).toUInt32 >>> ((Int32.ofInt 1).toUInt32 &&& Int32.toUInt32 31)).toInt32) &&& (1431655765))).toUInt32 >>> ((Int32.ofInt 2).toUInt32 &&& Int32.toUInt32 31)).toInt32) &&& (858993459))) + ((((((x) - ((((x).toUInt32 >>> ((Int32.ofInt 1).toUInt32 &&& Int32.toUInt32 31)).toInt32) &&& (1431655765))) &&& (858993459)) + (((((x) - ((((x).toUInt32 >>> ((Int32.ofInt 1).toUInt32 &&& Int32.toUInt32 31)).toInt32) &&& (1431655765))).toUInt32 >>> ((Int32.ofInt 2).toUInt32 &&& Int32.toUInt32 31)).toInt32) &&& (858993459))).toUInt32 >>> ((Int32.ofInt 4).toUInt32 &&& Int32.toUInt32 31)).toInt32)) &&& (252645135)) + ((((((((x) - ((((x).toUInt32 >>> ((Int32.ofInt 1).toUInt32 &&& Int32.toUInt32 31)).toInt32) &&& (1431655765))) &&& (858993459)) + (((((x) - ((((x).toUInt32 >>> ((Int32.ofInt 1).toUInt32 &&& Int32.toUInt32 31)).toInt32) &&& (1431655765))).toUInt32 >>> ((Int32.ofInt 2).toUInt32 &&& Int32.toUInt32 31)).toInt32) &&& (858993459))) + ((((((x) - ((((x).toUInt32 >>> ((Int32.ofInt 1).toUInt32 &&& Int32.toUInt32 31)).toInt32) &&& (1431655765))) &&& (858993459)) + (((((x) - ((((x).toUInt32 >>> ((Int32.ofInt 1).toUInt32 &&& Int32.toUInt32 31)).toInt32) &&& (1431655765))).toUInt32 >>> ((Int32.ofInt 2).toUInt32 &&& Int32.toUInt32 31)).toInt32) &&& (858993459))).toUInt32 >>> ((Int32.ofInt 4).toUInt32 &&& Int32.toUInt32 31)).toInt32)) &&& (252645135)).toUInt32 >>> (((Int8.ofInt 8).toInt32).toUInt32 &&& Int32.toUInt32 31)).toInt32)))] [] SHF _
  refine AW.iload_n (dq rfl) rfl ?_
  show AW l (pI pg 21) P kc ks 42 _ _ SHF _
  refine AW.iload_n (dq rfl) rfl ?_
  show AW l (pI pg 21) P kc ks 43 _ _ SHF _
  refine AW.bipush (dq rfl) ?_
  show AW l (pI pg 21) P kc ks 45 _ _ SHF _
  refine AW.iushr (dq rfl) ?_
  show AW l (pI pg 21) P kc ks 46 _ _ SHF _
  refine AW.iadd (dq rfl) ?_
  show AW l (pI pg 21) P kc ks 47 _ _ SHF _
  refine AW.istore_n (dq rfl) (by decide +kernel) ?_
  show AW l (pI pg 21) P kc ks 48 [(0, .int ((((((((x) - ((((x).toUInt32 >>> ((Int32.ofInt 1).toUInt32 &&& Int32.toUInt32 31)).toInt32) &&& (1431655765))) &&& (858993459)) + (((((x) - ((((x).toUInt32 >>> ((Int32.ofInt 1).toUInt32 &&& Int32.toUInt32 31)).toInt32) &&& (1431655765))).toUInt32 >>> ((Int32.ofInt 2).toUInt32 &&& Int32.toUInt32 31)).toInt32) &&& (858993459))) + ((((((x) - ((((x).toUInt32 >>> ((Int32.ofInt 1).toUInt32 &&& Int32.toUInt32 31)).toInt32) &&& (1431655765))) &&& (858993459)) + (((((x) - ((((x).toUInt32 >>> ((Int32.ofInt 1).toUInt32 &&& Int32.toUInt32 31)).toInt32) &&& (1431655765))).toUInt32 >>> ((Int32.ofInt 2).toUInt32 &&& Int32.toUInt32 31)).toInt32) &&& (858993459))).toUInt32 >>> ((Int32.ofInt 4).toUInt32 &&& Int32.toUInt32 31)).toInt32)) &&& (252645135)) + ((((((((x) - ((((x).toUInt32 >>> ((Int32.ofInt 1).toUInt32 &&& Int32.toUInt32 31)).toInt32) &&& (1431655765))) &&& (858993459)) + (((((x) - ((((x).toUInt32 >>> ((Int32.ofInt 1).toUInt32 &&& Int32.toUInt32 31)).toInt32) &&& (1431655765))).toUInt32 >>> ((Int32.ofInt 2).toUInt32 &&& Int32.toUInt32 31)).toInt32) &&& (858993459))) + ((((((x) - ((((x).toUInt32 >>> ((Int32.ofInt 1).toUInt32 &&& Int32.toUInt32 31)).toInt32) &&& (1431655765))) &&& (858993459)) + (((((x) - ((((x).toUInt32 >>> ((Int32.ofInt 1).toUInt32 &&& Int32.toUInt32 31)).toInt32) &&& (1431655765))).toUInt32 >>> ((Int32.ofInt 2).toUInt32 &&& Int32.toUInt32 31)).toInt32) &&& (858993459))).toUInt32 >>> ((Int32.ofInt 4).toUInt32 &&& Int32.toUInt32 31)).toInt32)) &&& (252645135)).toUInt32 >>> (((Int8.ofInt 8).toInt32).toUInt32 &&& Int32.toUInt32 31)).toInt32)) + (((((((((x) - ((((x).toUInt32 >>> ((Int32.ofInt 1).toUInt32 &&& Int32.toUInt32 31)).toInt32) &&& (1431655765))) &&& (858993459)) + (((((x) - ((((x).toUInt32 >>> ((Int32.ofInt 1).toUInt32 &&& Int32.toUInt32 31)).toInt32) &&& (1431655765))).toUInt32 >>> ((Int32.ofInt 2).toUInt32 &&& Int32.toUInt32 31)).toInt32) &&& (858993459))) + ((((((x) - ((((x).toUInt32 >>> ((Int32.ofInt 1).toUInt32 &&& Int32.toUInt32 31)).toInt32) &&& (1431655765))) &&& (858993459)) + (((((x) - ((((x).toUInt32 >>> ((Int32.ofInt 1).toUInt32 &&& Int32.toUInt32 31)).toInt32) &&& (1431655765))).toUInt32 >>> ((Int32.ofInt 2).toUInt32 &&& Int32.toUInt32 31)).toInt32) &&& (858993459))).toUInt32 >>> ((Int32.ofInt 4).toUInt32 &&& Int32.toUInt32 31)).toInt32)) &&& (252645135)) + ((((((((x) - ((((x).toUInt32 >>> ((Int32.ofInt 1).toUInt32 &&& Int32.toUInt32 31)).toInt32) &&& (1431655765))) &&& (858993459)) + (((((x) - ((((x).toUInt32 >>> ((Int32.ofInt 1).toUInt32 &&& Int32.toUInt32 31)).toInt32) &&& (1431655765))).toUInt32 >>> ((Int32.ofInt 2).toUInt32 &&& Int32.toUInt32 31)).toInt32) &&& (858993459))) + ((((((x) - ((((x).toUInt32 >>> ((Int32.ofInt 1).toUInt32 &&& Int32.toUInt32 31)).toInt32) &&& (1431655765))) &&& (858993459)) + (((((x) - ((((x).toUInt32 >>> ((Int32.ofInt 1).toUInt32 &&& Int32.toUInt32 31)).toInt32) &&& (1431655765))).toUInt32 >>> ((Int32.ofInt 2).toUInt32 &&& Int32.toUInt32 31)).toInt32) &&& (858993459))).toUInt32 >>> ((Int32.ofInt 4).toUInt32 &&& Int32.toUInt32 31)).toInt32)) &&& (252645135)).toUInt32 >>> (((Int8.ofInt 8).toInt32).toUInt32 &&& Int32.toUInt32 31)).toInt32)).toUInt32 >>> (((Int8.ofInt 16).toInt32).toUInt32 &&& Int32.toUInt32 31)).toInt32)))] [] SHF _
  refine AW.iload_n (dq rfl) rfl ?_
  show AW l (pI pg 21) P kc ks 49 _ _ SHF _
  refine AW.bipush (dq rfl) ?_
  show AW l (pI pg 21) P kc ks 51 _ _ SHF _
  refine AW.iand (dq rfl) ?_
  show AW l (pI pg 21) P kc ks 52 _ _ SHF _
  refine AW.iret (dq rfl) rfl ?_
  exact r1

theorem sAPa_0 {l : aL} {P : aP} {kc ks : Nat} {M : aM} (hJ : ∀ e ∈ RM, M.2.2 e.1 e.2.1 = e.2.2)  (r1 : P (.inl (some (.int (((Int32.ofInt 1) <<< ((M.1 4 0) &&& 31)) - (Int32.ofInt 1))))) SHF M) : AW l (pI pg 32) P kc ks 0 [(0, .ref 4)] [] SHF M := by
  refine AW.iconst (dq rfl) ?_
  show AW l (pI pg 32) P kc ks 1 _ _ SHF _
  refine AW.aload_n (dq rfl) rfl rfl ?_
  show AW l (pI pg 32) P kc ks 2 _ _ SHF _
  refine fw_get (dq rfl) (pg_ok.2.1 32 _ _ _ _ rfl) rfl (v := .int (M.1 4 0)) rfl ?_
  show AW l (pI pg 32) P kc ks 5 _ _ SHF _
  refine AW.ishl (dq rfl) ?_
  show AW l (pI pg 32) P kc ks 6 _ _ SHF _
  refine AW.iconst (dq rfl) ?_
  show AW l (pI pg 32) P kc ks 7 _ _ SHF _
  refine AW.isub (dq rfl) ?_
  show AW l (pI pg 32) P kc ks 8 _ _ SHF _
  refine AW.iret (dq rfl) rfl ?_
  exact r1

theorem sAPb_0 {l : aL} {P : aP} {kc ks : Nat} {M : aM} (hJ : ∀ e ∈ RM, M.2.2 e.1 e.2.1 = e.2.2)  (r1 : P (.inl (some (.int (((Int32.ofInt 1) <<< ((M.1 17 0) &&& 31)) - (Int32.ofInt 1))))) SHF M) : AW l (pI pg 32) P kc ks 0 [(0, .ref 17)] [] SHF M := by
  refine AW.iconst (dq rfl) ?_
  show AW l (pI pg 32) P kc ks 1 _ _ SHF _
  refine AW.aload_n (dq rfl) rfl rfl ?_
  show AW l (pI pg 32) P kc ks 2 _ _ SHF _
  refine fw_get (dq rfl) (pg_ok.2.1 32 _ _ _ _ rfl) rfl (v := .int (M.1 17 0)) rfl ?_
  show AW l (pI pg 32) P kc ks 5 _ _ SHF _
  refine AW.ishl (dq rfl) ?_
  show AW l (pI pg 32) P kc ks 6 _ _ SHF _
  refine AW.iconst (dq rfl) ?_
  show AW l (pI pg 32) P kc ks 7 _ _ SHF _
  refine AW.isub (dq rfl) ?_
  show AW l (pI pg 32) P kc ks 8 _ _ SHF _
  refine AW.iret (dq rfl) rfl ?_
  exact r1

theorem s141_0 {l : aL} {P : aP} {kc ks : Nat} {x y : Int32} {M : aM} (hJ : ∀ e ∈ RM, M.2.2 e.1 e.2.1 = e.2.2)  (k1 : AW l (pI pg 141) P kc ks 7 [(4, .int (Int32.ofInt 0)), (3, .int (y)), (2, .int (x))] [] SHF M) : AW l (pI pg 141) P kc ks 0 [(0, .int (x)), (1, .int (y))] [] SHF M := by
  refine AW.iload_n (dq rfl) rfl ?_
  show AW l (pI pg 141) P kc ks 1 _ _ SHF _
  refine AW.istore_n (dq rfl) (by decide +kernel) ?_
  show AW l (pI pg 141) P kc ks 2 [(2, .int (x)), (0, .int (x)), (1, .int (y))] [] SHF _
  refine AW.iload_n (dq rfl) rfl ?_
  show AW l (pI pg 141) P kc ks 3 _ _ SHF _
  refine AW.istore_n (dq rfl) (by decide +kernel) ?_
  show AW l (pI pg 141) P kc ks 4 [(3, .int (y)), (2, .int (x)), (0, .int (x)), (1, .int (y))] [] SHF _
  refine AW.iconst (dq rfl) ?_
  show AW l (pI pg 141) P kc ks 5 _ _ SHF _
  refine AW.istore (dq rfl) (by decide +kernel) ?_
  show AW l (pI pg 141) P kc ks 7 [(4, .int (Int32.ofInt 0)), (3, .int (y)), (2, .int (x)), (0, .int (x)), (1, .int (y))] [] SHF _
  refine AW.drop (lv' := [(4, .int (Int32.ofInt 0)), (3, .int (y)), (2, .int (x))]) (List.forall_mem_cons.mpr ⟨List.mem_of_getElem? (i := 0) rfl, List.forall_mem_cons.mpr ⟨List.mem_of_getElem? (i := 1) rfl, List.forall_mem_cons.mpr ⟨List.mem_of_getElem? (i := 2) rfl, fun _ h => absurd h List.not_mem_nil⟩⟩⟩) ?_
  exact k1

theorem s141_7 {l : aL} {P : aP} {kc ks : Nat} {k : Nat} {x y : Int32} {M : aM} (hJ : ∀ e ∈ RM, M.2.2 e.1 e.2.1 = e.2.2)  (r2 : ∀ (h1 : ((Int8.ofInt 100).toInt32 : Int32) ≤ (nI k : Int32)), P (.inl (some (.int (if (Int32.ofInt 1) < (x) then (x) else (Int32.ofInt 1))))) SHF M) (r4 : ∀ (h1 : ¬ (((Int8.ofInt 100).toInt32 : Int32) ≤ (nI k : Int32))), ∀ (h3 : (y : Int32) = 0), P (.inl (some (.int (if (Int32.ofInt 1) < (x) then (x) else (Int32.ofInt 1))))) SHF M) (d5 : ∀ (h1 : ¬ (((Int8.ofInt 100).toInt32 : Int32) ≤ (nI k : Int32))), ∀ (h3 : ¬ ((y : Int32) = 0)), ¬ (y) = (0 : Int32)) (k6 : ∀ (h1 : ¬ (((Int8.ofInt 100).toInt32 : Int32) ≤ (nI k : Int32))), ∀ (h3 : ¬ ((y : Int32) = 0)), AW l (pI pg 141) P kc ks 7 [(4, .int ((nI k) + Int32.ofInt 1)), (3, .int ((x) - (x) / (y) * (y))), (2, .int (y))] [] SHF M) : AW l (pI pg 141) P kc ks 7 [(4, .int (nI k)), (3, .int (y)), (2, .int (x))] [] SHF M := by
  refine AW.iload (dq rfl) rfl ?_
  show AW l (pI pg 141) P kc ks 9 _ _ SHF _
  refine AW.bipush (dq rfl) ?_
  show AW l (pI pg 141) P kc ks 11 _ _ SHF _
  refine AW.icmp_ge (dq rfl) (tgt := 34) (by decide) (fun h1 => ?_) (fun h1 => ?_)
  · have _ := h1
    refine AW.iconst (dq rfl) ?_
    show AW l (pI pg 141) P kc ks 35 _ _ SHF _
    refine AW.iload_n (dq rfl) rfl ?_
    show AW l (pI pg 141) P kc ks 36 _ _ SHF _
    refine AW.mmax (dq rfl) (mt_1 141 rfl) (by decide +kernel) (by decide +kernel) ?_
    show AW l (pI pg 141) P kc ks 39 _ _ SHF _
    refine AW.iret (dq rfl) rfl ?_
    exact r2 h1
  · have _ := h1
    refine AW.iload_n (dq rfl) rfl ?_
    show AW l (pI pg 141) P kc ks 15 _ _ SHF _
    refine AW.if_eq (dq rfl) (tgt := 34) (by decide) (fun h3 => ?_) (fun h3 => ?_)
    · have _ := h3
      refine AW.iconst (dq rfl) ?_
      show AW l (pI pg 141) P kc ks 35 _ _ SHF _
      refine AW.iload_n (dq rfl) rfl ?_
      show AW l (pI pg 141) P kc ks 36 _ _ SHF _
      refine AW.mmax (dq rfl) (mt_1 141 rfl) (by decide +kernel) (by decide +kernel) ?_
      show AW l (pI pg 141) P kc ks 39 _ _ SHF _
      refine AW.iret (dq rfl) rfl ?_
      exact r4 h1 h3
    · have _ := h3
      refine AW.iload_n (dq rfl) rfl ?_
      show AW l (pI pg 141) P kc ks 19 _ _ SHF _
      refine AW.iload_n (dq rfl) rfl ?_
      show AW l (pI pg 141) P kc ks 20 _ _ SHF _
      refine AW.irem (dq rfl) (d5 h1 h3) ?_
      show AW l (pI pg 141) P kc ks 21 _ _ SHF _
      refine AW.istore (dq rfl) (by decide +kernel) ?_
      show AW l (pI pg 141) P kc ks 23 [(5, .int ((x) - (x) / (y) * (y))), (4, .int (nI k)), (3, .int (y)), (2, .int (x))] [] SHF _
      refine AW.iload_n (dq rfl) rfl ?_
      show AW l (pI pg 141) P kc ks 24 _ _ SHF _
      refine AW.istore_n (dq rfl) (by decide +kernel) ?_
      show AW l (pI pg 141) P kc ks 25 [(2, .int (y)), (5, .int ((x) - (x) / (y) * (y))), (4, .int (nI k)), (3, .int (y))] [] SHF _
      refine AW.iload (dq rfl) rfl ?_
      show AW l (pI pg 141) P kc ks 27 _ _ SHF _
      refine AW.istore_n (dq rfl) (by decide +kernel) ?_
      show AW l (pI pg 141) P kc ks 28 [(3, .int ((x) - (x) / (y) * (y))), (2, .int (y)), (5, .int ((x) - (x) / (y) * (y))), (4, .int (nI k))] [] SHF _
      refine AW.iinc (dq rfl) rfl (by decide +kernel) ?_
      show AW l (pI pg 141) P kc ks 31 [(4, .int ((nI k) + Int32.ofInt 1)), (3, .int ((x) - (x) / (y) * (y))), (2, .int (y)), (5, .int ((x) - (x) / (y) * (y)))] [] SHF _
      refine AW.goto (dq rfl) (tgt := 7) (by decide) ?_
      refine AW.drop (lv' := [(4, .int ((nI k) + Int32.ofInt 1)), (3, .int ((x) - (x) / (y) * (y))), (2, .int (y))]) (List.forall_mem_cons.mpr ⟨List.mem_of_getElem? (i := 0) rfl, List.forall_mem_cons.mpr ⟨List.mem_of_getElem? (i := 1) rfl, List.forall_mem_cons.mpr ⟨List.mem_of_getElem? (i := 2) rfl, fun _ h => absurd h List.not_mem_nil⟩⟩⟩) ?_
      exact k6 h1 h3

theorem s228_0 {l : aL} {P : aP} {kc ks : Nat} {n : Nat} {M : aM} (hJ : ∀ e ∈ RM, M.2.2 e.1 e.2.1 = e.2.2)  (k1 : AW l (pI pg 229) P kc ks 4 [(2, .int (Int32.ofInt 2)), (1, .int (Int32.ofInt 1)), (0, .int (nI n))] [] SHF M) : AW l (pI pg 229) P kc ks 0 [(0, .int (nI n))] [] SHF M := by
  refine AW.iconst (dq rfl) ?_
  show AW l (pI pg 229) P kc ks 1 _ _ SHF _
  refine AW.istore_n (dq rfl) (by decide +kernel) ?_
  show AW l (pI pg 229) P kc ks 2 [(1, .int (Int32.ofInt 1)), (0, .int (nI n))] [] SHF _
  refine AW.iconst (dq rfl) ?_
  show AW l (pI pg 229) P kc ks 3 _ _ SHF _
  refine AW.istore_n (dq rfl) (by decide +kernel) ?_
  show AW l (pI pg 229) P kc ks 4 [(2, .int (Int32.ofInt 2)), (1, .int (Int32.ofInt 1)), (0, .int (nI n))] [] SHF _
  refine AW.drop (lv' := [(2, .int (Int32.ofInt 2)), (1, .int (Int32.ofInt 1)), (0, .int (nI n))]) (List.forall_mem_cons.mpr ⟨List.mem_of_getElem? (i := 0) rfl, List.forall_mem_cons.mpr ⟨List.mem_of_getElem? (i := 1) rfl, List.forall_mem_cons.mpr ⟨List.mem_of_getElem? (i := 2) rfl, fun _ h => absurd h List.not_mem_nil⟩⟩⟩) ?_
  exact k1

theorem s228_4 {l : aL} {P : aP} {kc ks : Nat} {k n : Nat} {v : Int32} {M : aM} (hJ : ∀ e ∈ RM, M.2.2 e.1 e.2.1 = e.2.2)  (r2 : ∀ (h1 : (nI n : Int32) < (nI k : Int32)), P (.inl (some (.int (v)))) SHF M) (k3 : ∀ (h1 : ¬ ((nI n : Int32) < (nI k : Int32))), AW l (pI pg 229) P kc ks 4 [(2, .int ((nI k) + Int32.ofInt 1)), (1, .int ((v) * (nI k))), (0, .int (nI n))] [] SHF M) : AW l (pI pg 229) P kc ks 4 [(2, .int (nI k)), (1, .int (v)), (0, .int (nI n))] [] SHF M := by
  refine AW.iload_n (dq rfl) rfl ?_
  show AW l (pI pg 229) P kc ks 5 _ _ SHF _
  refine AW.iload_n (dq rfl) rfl ?_
  show AW l (pI pg 229) P kc ks 6 _ _ SHF _
  refine AW.icmp_gt (dq rfl) (tgt := 19) (by decide) (fun h1 => ?_) (fun h1 => ?_)
  · have _ := h1
    refine AW.iload_n (dq rfl) rfl ?_
    show AW l (pI pg 229) P kc ks 20 _ _ SHF _
    refine AW.iret (dq rfl) rfl ?_
    exact r2 h1
  · have _ := h1
    refine AW.iload_n (dq rfl) rfl ?_
    show AW l (pI pg 229) P kc ks 10 _ _ SHF _
    refine AW.iload_n (dq rfl) rfl ?_
    show AW l (pI pg 229) P kc ks 11 _ _ SHF _
    refine AW.imul (dq rfl) ?_
    show AW l (pI pg 229) P kc ks 12 _ _ SHF _
    refine AW.istore_n (dq rfl) (by decide +kernel) ?_
    show AW l (pI pg 229) P kc ks 13 [(1, .int ((v) * (nI k))), (2, .int (nI k)), (0, .int (nI n))] [] SHF _
    refine AW.iinc (dq rfl) rfl (by decide +kernel) ?_
    show AW l (pI pg 229) P kc ks 16 [(2, .int ((nI k) + Int32.ofInt 1)), (1, .int ((v) * (nI k))), (0, .int (nI n))] [] SHF _
    refine AW.goto (dq rfl) (tgt := 4) (by decide) ?_
    refine AW.drop (lv' := [(2, .int ((nI k) + Int32.ofInt 1)), (1, .int ((v) * (nI k))), (0, .int (nI n))]) (List.forall_mem_cons.mpr ⟨List.mem_of_getElem? (i := 0) rfl, List.forall_mem_cons.mpr ⟨List.mem_of_getElem? (i := 1) rfl, List.forall_mem_cons.mpr ⟨List.mem_of_getElem? (i := 2) rfl, fun _ h => absurd h List.not_mem_nil⟩⟩⟩) ?_
    exact k3 h1

theorem s227_153 {l : aL} {P : aP} {kc ks : Nat} {wh sm : Int32} {M : aM} (hJ : ∀ e ∈ RM, M.2.2 e.1 e.2.1 = e.2.2)  (Q1 : Int32 → aM → Prop) (c2 : AC l (pI pg 229) (fcI M Q1) 0 0 [.int (M.1 58 1)] SHF M) (k3 : ∀ (y1 : Int32), ∀ (M1 : aM), ∀ (e1 : M1.2.2 = M.2.2), ∀ (q1 : Q1 y1 M1), AW l (pI pg 228) P kc ks 169 [(6, .int (sm)), (5, .int (y1)), (4, .int (y1)), (3, .int (sm)), (2, .int (wh))] [] SHF M1) : AW l (pI pg 228) P kc ks 153 [(0, .ref 58), (2, .int (wh)), (3, .int (sm))] [] SHF M := by
  refine AW.aload_n (dq rfl) rfl rfl ?_
  show AW l (pI pg 228) P kc ks 154 _ _ SHF _
  refine fw_get (dq rfl) (pg_ok.2.1 228 _ _ _ _ rfl) rfl (v := .int (M.1 58 1)) rfl ?_
  show AW l (pI pg 228) P kc ks 157 _ _ SHF _
  refine fw_callSI (as := [.int (M.1 58 1)]) (dq rfl) (pg_ok.2.2.1 228 _ _ _ _ rfl) (by decide +kernel) rfl rfl (c2) (fun y1 M1 e1 q1 => ?_)
  have hJ1 : ∀ e ∈ RM, M1.2.2 e.1 e.2.1 = e.2.2 := fun e he => by rw [e1]; exact hJ e he
  show AW l (pI pg 228) P kc ks 160 [(0, .ref 58), (2, .int (wh)), (3, .int (sm))] [.int (y1)] SHF _
  refine AW.istore (dq rfl) (by decide +kernel) ?_
  show AW l (pI pg 228) P kc ks 162 [(4, .int (y1)), (0, .ref 58), (2, .int (wh)), (3, .int (sm))] [] SHF _
  refine AW.iload (dq rfl) rfl ?_
  show AW l (pI pg 228) P kc ks 164 _ _ SHF _
  refine AW.istore (dq rfl) (by decide +kernel) ?_
  show AW l (pI pg 228) P kc ks 166 [(5, .int (y1)), (4, .int (y1)), (0, .ref 58), (2, .int (wh)), (3, .int (sm))] [] SHF _
  refine AW.iload_n (dq rfl) rfl ?_
  show AW l (pI pg 228) P kc ks 167 _ _ SHF _
  refine AW.istore (dq rfl) (by decide +kernel) ?_
  show AW l (pI pg 228) P kc ks 169 [(6, .int (sm)), (5, .int (y1)), (4, .int (y1)), (0, .ref 58), (2, .int (wh)), (3, .int (sm))] [] SHF _
  refine AW.drop (lv' := [(6, .int (sm)), (5, .int (y1)), (4, .int (y1)), (3, .int (sm)), (2, .int (wh))]) (List.forall_mem_cons.mpr ⟨List.mem_of_getElem? (i := 0) rfl, List.forall_mem_cons.mpr ⟨List.mem_of_getElem? (i := 1) rfl, List.forall_mem_cons.mpr ⟨List.mem_of_getElem? (i := 2) rfl, List.forall_mem_cons.mpr ⟨List.mem_of_getElem? (i := 5) rfl, List.forall_mem_cons.mpr ⟨List.mem_of_getElem? (i := 4) rfl, fun _ h => absurd h List.not_mem_nil⟩⟩⟩⟩⟩) ?_
  exact k3 y1 M1 e1 q1

theorem s227_169 {l : aL} {P : aP} {kc ks : Nat} {x y al sm wh : Int32} {M : aM} (hJ : ∀ e ∈ RM, M.2.2 e.1 e.2.1 = e.2.2)  (d3 : ∀ (h1 : (y : Int32) = 0), ∀ (h2 : ¬ (wh : Int32) = 0), ¬ (x) = (0 : Int32)) (r4 : ∀ (h1 : (y : Int32) = 0), ∀ (h2 : ¬ (wh : Int32) = 0), P (.inl (some (.int ((al) / (x))))) SHF M) (d5 : ∀ (h1 : (y : Int32) = 0), ∀ (h2 : (wh : Int32) = 0), ¬ (x) = (0 : Int32)) (r6 : ∀ (h1 : (y : Int32) = 0), ∀ (h2 : (wh : Int32) = 0), P (.inl (some (.int ((sm) / (x))))) SHF M) (d7 : ∀ (h1 : ¬ ((y : Int32) = 0)), ¬ (y) = (0 : Int32)) (k8 : ∀ (h1 : ¬ ((y : Int32) = 0)), AW l (pI pg 228) P kc ks 169 [(6, .int ((x) - (x) / (y) * (y))), (5, .int (y)), (4, .int (al)), (3, .int (sm)), (2, .int (wh))] [] SHF M) : AW l (pI pg 228) P kc ks 169 [(6, .int (y)), (5, .int (x)), (4, .int (al)), (3, .int (sm)), (2, .int (wh))] [] SHF M := by
  refine AW.iload (dq rfl) rfl ?_
  show AW l (pI pg 228) P kc ks 171 _ _ SHF _
  refine AW.if_eq (dq rfl) (tgt := 192) (by decide) (fun h1 => ?_) (fun h1 => ?_)
  · have _ := h1
    refine AW.iload_n (dq rfl) rfl ?_
    show AW l (pI pg 228) P kc ks 193 _ _ SHF _
    refine AW.if_ne (dq rfl) (tgt := 203) (by decide) (fun h2 => ?_) (fun h2 => ?_)
    · have _ := h2
      refine AW.iload (dq rfl) rfl ?_
      show AW l (pI pg 228) P kc ks 205 _ _ SHF _
      refine AW.iload (dq rfl) rfl ?_
      show AW l (pI pg 228) P kc ks 207 _ _ SHF _
      refine AW.idiv (dq rfl) (d3 h1 h2) ?_
      show AW l (pI pg 228) P kc ks 208 _ _ SHF _
      refine AW.iret (dq rfl) rfl ?_
      exact r4 h1 h2
    · have _ := h2
      refine AW.iload_n (dq rfl) rfl ?_
      show AW l (pI pg 228) P kc ks 197 _ _ SHF _
      refine AW.iload (dq rfl) rfl ?_
      show AW l (pI pg 228) P kc ks 199 _ _ SHF _
      refine AW.idiv (dq rfl) (d5 h1 h2) ?_
      show AW l (pI pg 228) P kc ks 200 _ _ SHF _
      refine AW.goto (dq rfl) (tgt := 208) (by decide) ?_
      refine AW.iret (dq rfl) rfl ?_
      exact r6 h1 h2
  · have _ := h1
    refine AW.iload (dq rfl) rfl ?_
    show AW l (pI pg 228) P kc ks 176 _ _ SHF _
    refine AW.iload (dq rfl) rfl ?_
    show AW l (pI pg 228) P kc ks 178 _ _ SHF _
    refine AW.irem (dq rfl) (d7 h1) ?_
    show AW l (pI pg 228) P kc ks 179 _ _ SHF _
    refine AW.istore (dq rfl) (by decide +kernel) ?_
    show AW l (pI pg 228) P kc ks 181 [(7, .int ((x) - (x) / (y) * (y))), (6, .int (y)), (5, .int (x)), (4, .int (al)), (3, .int (sm)), (2, .int (wh))] [] SHF _
    refine AW.iload (dq rfl) rfl ?_
    show AW l (pI pg 228) P kc ks 183 _ _ SHF _
    refine AW.istore (dq rfl) (by decide +kernel) ?_
    show AW l (pI pg 228) P kc ks 185 [(5, .int (y)), (7, .int ((x) - (x) / (y) * (y))), (6, .int (y)), (4, .int (al)), (3, .int (sm)), (2, .int (wh))] [] SHF _
    refine AW.iload (dq rfl) rfl ?_
    show AW l (pI pg 228) P kc ks 187 _ _ SHF _
    refine AW.istore (dq rfl) (by decide +kernel) ?_
    show AW l (pI pg 228) P kc ks 189 [(6, .int ((x) - (x) / (y) * (y))), (5, .int (y)), (7, .int ((x) - (x) / (y) * (y))), (4, .int (al)), (3, .int (sm)), (2, .int (wh))] [] SHF _
    refine AW.goto (dq rfl) (tgt := 169) (by decide) ?_
    refine AW.drop (lv' := [(6, .int ((x) - (x) / (y) * (y))), (5, .int (y)), (4, .int (al)), (3, .int (sm)), (2, .int (wh))]) (List.forall_mem_cons.mpr ⟨List.mem_of_getElem? (i := 0) rfl, List.forall_mem_cons.mpr ⟨List.mem_of_getElem? (i := 1) rfl, List.forall_mem_cons.mpr ⟨List.mem_of_getElem? (i := 3) rfl, List.forall_mem_cons.mpr ⟨List.mem_of_getElem? (i := 4) rfl, List.forall_mem_cons.mpr ⟨List.mem_of_getElem? (i := 5) rfl, fun _ h => absurd h List.not_mem_nil⟩⟩⟩⟩⟩) ?_
    exact k8 h1

theorem s140a_0 {l : aL} {P : aP} {kc ks : Nat} {p : Nat} {M : aM} (hJ : ∀ e ∈ RR.2, M.2.2 e.1 e.2.1 = e.2.2)  (k1 : AW l (pI pg 140) P kc ks 4 [(3, .int (Int32.ofInt 0)), (2, .int (Int32.ofInt 0)), (0, .ref 0), (1, .int (nI p))] [] SHF M) : AW l (pI pg 140) P kc ks 0 [(0, .ref 0), (1, .int (nI p))] [] SHF M := by
  refine AW.iconst (dq rfl) ?_
  show AW l (pI pg 140) P kc ks 1 _ _ SHF _
  refine AW.istore_n (dq rfl) (by decide +kernel) ?_
  show AW l (pI pg 140) P kc ks 2 [(2, .int (Int32.ofInt 0)), (0, .ref 0), (1, .int (nI p))] [] SHF _
  refine AW.iconst (dq rfl) ?_
  show AW l (pI pg 140) P kc ks 3 _ _ SHF _
  refine AW.istore_n (dq rfl) (by decide +kernel) ?_
  show AW l (pI pg 140) P kc ks 4 [(3, .int (Int32.ofInt 0)), (2, .int (Int32.ofInt 0)), (0, .ref 0), (1, .int (nI p))] [] SHF _
  refine AW.drop (lv' := [(3, .int (Int32.ofInt 0)), (2, .int (Int32.ofInt 0)), (0, .ref 0), (1, .int (nI p))]) (List.forall_mem_cons.mpr ⟨List.mem_of_getElem? (i := 0) rfl, List.forall_mem_cons.mpr ⟨List.mem_of_getElem? (i := 1) rfl, List.forall_mem_cons.mpr ⟨List.mem_of_getElem? (i := 2) rfl, List.forall_mem_cons.mpr ⟨List.mem_of_getElem? (i := 3) rfl, fun _ h => absurd h List.not_mem_nil⟩⟩⟩⟩) ?_
  exact k1

theorem s140a_4 {l : aL} {P : aP} {kc ks : Nat} {k p : Nat} {v : Int32} {M : aM} (hJ : ∀ e ∈ RR.2, M.2.2 e.1 e.2.1 = e.2.2)  (Q1 : Int32 → aM → Prop) (c2 : AC l (pI pg 32) (fcI M Q1) 0 0 [.ref 4] SHF M) (r4 : ∀ (y1 : Int32), ∀ (M1 : aM), ∀ (e1 : M1.2.2 = M.2.2), ∀ (q1 : Q1 y1 M1), ∀ (h3 : (y1 : Int32) < (nI k : Int32)), P (.inl (some (.int (v)))) SHF M1) (k6 : ∀ (y1 : Int32), ∀ (M1 : aM), ∀ (e1 : M1.2.2 = M.2.2), ∀ (q1 : Q1 y1 M1), ∀ (h3 : ¬ ((y1 : Int32) < (nI k : Int32))), ∀ (h5 : ¬ (((nI k) >>> ((nI p) &&& 31)) &&& (Int32.ofInt 1) : Int32) = 0), AW l (pI pg 140) P kc ks 4 [(3, .int ((nI k) + Int32.ofInt 1)), (2, .int (v)), (0, .ref 0), (1, .int (nI p))] [] SHF M1) (Q7 : Int32 → aM → Int32 → aM → Prop) (c8 : ∀ (y1 : Int32), ∀ (M1 : aM), ∀ (e1 : M1.2.2 = M.2.2), ∀ (q1 : Q1 y1 M1), ∀ (h3 : ¬ ((y1 : Int32) < (nI k : Int32))), ∀ (h5 : (((nI k) >>> ((nI p) &&& 31)) &&& (Int32.ofInt 1) : Int32) = 0), AC l (pI pg 21) (fcI M1 (Q7 y1 M1)) 0 0 [.int (nI k)] SHF M1) (Q9 : Int32 → aM → Int32 → aM → Int32 → aM → Prop) (c10 : ∀ (y1 : Int32), ∀ (M1 : aM), ∀ (e1 : M1.2.2 = M.2.2), ∀ (q1 : Q1 y1 M1), ∀ (h3 : ¬ ((y1 : Int32) < (nI k : Int32))), ∀ (h5 : (((nI k) >>> ((nI p) &&& 31)) &&& (Int32.ofInt 1) : Int32) = 0), ∀ (y7 : Int32), ∀ (M7 : aM), ∀ (e7 : M7.2.2 = M1.2.2), ∀ (q7 : (Q7 y1 M1) y7 M7), AC l (pI pg 115) (fcI M7 (Q9 y1 M1 y7 M7)) 0 0 [.ref 33, .int ((nI k) ||| ((Int32.ofInt 1) <<< ((nI p) &&& 31)))] SHF M7) (Q11 : Int32 → aM → Int32 → aM → Int32 → aM → Int32 → aM → Prop) (c12 : ∀ (y1 : Int32), ∀ (M1 : aM), ∀ (e1 : M1.2.2 = M.2.2), ∀ (q1 : Q1 y1 M1), ∀ (h3 : ¬ ((y1 : Int32) < (nI k : Int32))), ∀ (h5 : (((nI k) >>> ((nI p) &&& 31)) &&& (Int32.ofInt 1) : Int32) = 0), ∀ (y7 : Int32), ∀ (M7 : aM), ∀ (e7 : M7.2.2 = M1.2.2), ∀ (q7 : (Q7 y1 M1) y7 M7), ∀ (y9 : Int32), ∀ (M9 : aM), ∀ (e9 : M9.2.2 = M7.2.2), ∀ (q9 : (Q9 y1 M1 y7 M7) y9 M9), AC l (pI pg 115) (fcI M9 (Q11 y1 M1 y7 M7 y9 M9)) 0 0 [.ref 33, .int (nI k)] SHF M9) (o13 : ∀ (y1 : Int32), ∀ (M1 : aM), ∀ (e1 : M1.2.2 = M.2.2), ∀ (q1 : Q1 y1 M1), ∀ (h3 : ¬ ((y1 : Int32) < (nI k : Int32))), ∀ (h5 : (((nI k) >>> ((nI p) &&& 31)) &&& (Int32.ofInt 1) : Int32) = 0), ∀ (y7 : Int32), ∀ (M7 : aM), ∀ (e7 : M7.2.2 = M1.2.2), ∀ (q7 : (Q7 y1 M1) y7 M7), ∀ (y9 : Int32), ∀ (M9 : aM), ∀ (e9 : M9.2.2 = M7.2.2), ∀ (q9 : (Q9 y1 M1 y7 M7) y9 M9), ∀ (y11 : Int32), ∀ (M11 : aM), ∀ (e11 : M11.2.2 = M9.2.2), ∀ (q11 : (Q11 y1 M1 y7 M7 y9 M9) y11 M11), vp_in (y7) 7) (o14 : ∀ (y1 : Int32), ∀ (M1 : aM), ∀ (e1 : M1.2.2 = M.2.2), ∀ (q1 : Q1 y1 M1), ∀ (h3 : ¬ ((y1 : Int32) < (nI k : Int32))), ∀ (h5 : (((nI k) >>> ((nI p) &&& 31)) &&& (Int32.ofInt 1) : Int32) = 0), ∀ (y7 : Int32), ∀ (M7 : aM), ∀ (e7 : M7.2.2 = M1.2.2), ∀ (q7 : (Q7 y1 M1) y7 M7), ∀ (y9 : Int32), ∀ (M9 : aM), ∀ (e9 : M9.2.2 = M7.2.2), ∀ (q9 : (Q9 y1 M1 y7 M7) y9 M9), ∀ (y11 : Int32), ∀ (M11 : aM), ∀ (e11 : M11.2.2 = M9.2.2), ∀ (q11 : (Q11 y1 M1 y7 M7 y9 M9) y11 M11), vp_in (((M7.1 4 0) - (Int32.ofInt 1)) - (y7)) 7) (k15 : ∀ (y1 : Int32), ∀ (M1 : aM), ∀ (e1 : M1.2.2 = M.2.2), ∀ (q1 : Q1 y1 M1), ∀ (h3 : ¬ ((y1 : Int32) < (nI k : Int32))), ∀ (h5 : (((nI k) >>> ((nI p) &&& 31)) &&& (Int32.ofInt 1) : Int32) = 0), ∀ (y7 : Int32), ∀ (M7 : aM), ∀ (e7 : M7.2.2 = M1.2.2), ∀ (q7 : (Q7 y1 M1) y7 M7), ∀ (y9 : Int32), ∀ (M9 : aM), ∀ (e9 : M9.2.2 = M7.2.2), ∀ (q9 : (Q9 y1 M1 y7 M7) y9 M9), ∀ (y11 : Int32), ∀ (M11 : aM), ∀ (e11 : M11.2.2 = M9.2.2), ∀ (q11 : (Q11 y1 M1 y7 M7 y9 M9) y11 M11), AW l (pI pg 140) P kc ks 4 [(3, .int ((nI k) + Int32.ofInt 1)), (2, .int ((v) + (((aFact.getD (y7).toNatClampNeg 0) * (aFact.getD (((M7.1 4 0) - (Int32.ofInt 1)) - (y7)).toNatClampNeg 0)) * ((y9) - (y11))))), (0, .ref 0), (1, .int (nI p))] [] SHF M11) : AW l (pI pg 140) P kc ks 4 [(3, .int (nI k)), (2, .int (v)), (0, .ref 0), (1, .int (nI p))] [] SHF M := by
  refine AW.iload_n (dq rfl) rfl ?_
  show AW l (pI pg 140) P kc ks 5 _ _ SHF _
  refine AW.aload_n (dq rfl) rfl rfl ?_
  show AW l (pI pg 140) P kc ks 6 _ _ SHF _
  refine fw_get (dq rfl) (pg_ok.2.1 140 _ _ _ _ rfl) rfl (v := .ref 4) (isTA_ok rfl (rgR_ok hJ rfl)) ?_
  show AW l (pI pg 140) P kc ks 9 _ _ SHF _
  refine fw_callVI (as := []) (dq rfl) (pg_ok.2.2.1 140 _ _ _ _ rfl) rfl (by decide +kernel) rfl rfl (c2) (fun y1 M1 e1 q1 => ?_)
  have hJ1 : ∀ e ∈ RR.2, M1.2.2 e.1 e.2.1 = e.2.2 := fun e he => by rw [e1]; exact hJ e he
  show AW l (pI pg 140) P kc ks 12 [(3, .int (nI k)), (2, .int (v)), (0, .ref 0), (1, .int (nI p))] [.int (y1), .int (nI k)] SHF _
  refine AW.icmp_gt (dq rfl) (tgt := 91) (by decide) (fun h3 => ?_) (fun h3 => ?_)
  · have _ := h3
    refine AW.iload_n (dq rfl) rfl ?_
    show AW l (pI pg 140) P kc ks 92 _ _ SHF _
    refine AW.iret (dq rfl) rfl ?_
    exact r4 y1 M1 e1 q1 h3
  · have _ := h3
    refine AW.iload_n (dq rfl) rfl ?_
    show AW l (pI pg 140) P kc ks 16 _ _ SHF _
    refine AW.iload_n (dq rfl) rfl ?_
    show AW l (pI pg 140) P kc ks 17 _ _ SHF _
    refine AW.ishr (dq rfl) ?_
    show AW l (pI pg 140) P kc ks 18 _ _ SHF _
    refine AW.iconst (dq rfl) ?_
    show AW l (pI pg 140) P kc ks 19 _ _ SHF _
    refine AW.iand (dq rfl) ?_
    show AW l (pI pg 140) P kc ks 20 _ _ SHF _
    refine AW.if_ne (dq rfl) (tgt := 85) (by decide) (fun h5 => ?_) (fun h5 => ?_)
    · have _ := h5
      refine AW.iinc (dq rfl) rfl (by decide +kernel) ?_
      show AW l (pI pg 140) P kc ks 88 [(3, .int ((nI k) + Int32.ofInt 1)), (2, .int (v)), (0, .ref 0), (1, .int (nI p))] [] SHF _
      refine AW.goto (dq rfl) (tgt := 4) (by decide) ?_
      refine AW.drop (lv' := [(3, .int ((nI k) + Int32.ofInt 1)), (2, .int (v)), (0, .ref 0), (1, .int (nI p))]) (List.forall_mem_cons.mpr ⟨List.mem_of_getElem? (i := 0) rfl, List.forall_mem_cons.mpr ⟨List.mem_of_getElem? (i := 1) rfl, List.forall_mem_cons.mpr ⟨List.mem_of_getElem? (i := 2) rfl, List.forall_mem_cons.mpr ⟨List.mem_of_getElem? (i := 3) rfl, fun _ h => absurd h List.not_mem_nil⟩⟩⟩⟩) ?_
      exact k6 y1 M1 e1 q1 h3 h5
    · have _ := h5
      refine AW.iload_n (dq rfl) rfl ?_
      show AW l (pI pg 140) P kc ks 24 _ _ SHF _
      refine fw_callSI (as := [.int (nI k)]) (dq rfl) (pg_ok.2.2.1 140 _ _ _ _ rfl) (by decide +kernel) rfl rfl (c8 y1 M1 e1 q1 h3 h5) (fun y7 M7 e7 q7 => ?_)
      have hJ7 : ∀ e ∈ RR.2, M7.2.2 e.1 e.2.1 = e.2.2 := fun e he => by rw [e7]; exact hJ1 e he
      show AW l (pI pg 140) P kc ks 27 [(3, .int (nI k)), (2, .int (v)), (0, .ref 0), (1, .int (nI p))] [.int (y7)] SHF _
      refine AW.istore (dq rfl) (by decide +kernel) ?_
      show AW l (pI pg 140) P kc ks 29 [(4, .int (y7)), (3, .int (nI k)), (2, .int (v)), (0, .ref 0), (1, .int (nI p))] [] SHF _
      refine AW.aload_n (dq rfl) rfl rfl ?_
      show AW l (pI pg 140) P kc ks 30 _ _ SHF _
      refine fw_get (dq rfl) (pg_ok.2.1 140 _ _ _ _ rfl) rfl (v := .ref 4) (isTA_ok rfl (rgR_ok hJ7 rfl)) ?_
      show AW l (pI pg 140) P kc ks 33 _ _ SHF _
      refine fw_get (dq rfl) (pg_ok.2.1 140 _ _ _ _ rfl) rfl (v := .int (M7.1 4 0)) rfl ?_
      show AW l (pI pg 140) P kc ks 36 _ _ SHF _
      refine AW.iconst (dq rfl) ?_
      show AW l (pI pg 140) P kc ks 37 _ _ SHF _
      refine AW.isub (dq rfl) ?_
      show AW l (pI pg 140) P kc ks 38 _ _ SHF _
      refine AW.iload (dq rfl) rfl ?_
      show AW l (pI pg 140) P kc ks 40 _ _ SHF _
      refine AW.isub (dq rfl) ?_
      show AW l (pI pg 140) P kc ks 41 _ _ SHF _
      refine AW.istore (dq rfl) (by decide +kernel) ?_
      show AW l (pI pg 140) P kc ks 43 [(5, .int (((M7.1 4 0) - (Int32.ofInt 1)) - (y7))), (4, .int (y7)), (3, .int (nI k)), (2, .int (v)), (0, .ref 0), (1, .int (nI p))] [] SHF _
      refine AW.aload_n (dq rfl) rfl rfl ?_
      show AW l (pI pg 140) P kc ks 44 _ _ SHF _
      refine fw_get (dq rfl) (pg_ok.2.1 140 _ _ _ _ rfl) rfl (v := .ref 33) (isTA_ok rfl (rgR_ok hJ7 rfl)) ?_
      show AW l (pI pg 140) P kc ks 47 _ _ SHF _
      refine AW.iload_n (dq rfl) rfl ?_
      show AW l (pI pg 140) P kc ks 48 _ _ SHF _
      refine AW.iconst (dq rfl) ?_
      show AW l (pI pg 140) P kc ks 49 _ _ SHF _
      refine AW.iload_n (dq rfl) rfl ?_
      show AW l (pI pg 140) P kc ks 50 _ _ SHF _
      refine AW.ishl (dq rfl) ?_
      show AW l (pI pg 140) P kc ks 51 _ _ SHF _
      refine AW.ior (dq rfl) ?_
      show AW l (pI pg 140) P kc ks 52 _ _ SHF _
      refine fw_callVI (as := [.int ((nI k) ||| ((Int32.ofInt 1) <<< ((nI p) &&& 31)))]) (dq rfl) (pg_ok.2.2.1 140 _ _ _ _ rfl) rfl (by decide +kernel) rfl rfl (c10 y1 M1 e1 q1 h3 h5 y7 M7 e7 q7) (fun y9 M9 e9 q9 => ?_)
      have hJ9 : ∀ e ∈ RR.2, M9.2.2 e.1 e.2.1 = e.2.2 := fun e he => by rw [e9]; exact hJ7 e he
      show AW l (pI pg 140) P kc ks 55 [(5, .int (((M7.1 4 0) - (Int32.ofInt 1)) - (y7))), (4, .int (y7)), (3, .int (nI k)), (2, .int (v)), (0, .ref 0), (1, .int (nI p))] [.int (y9)] SHF _
      refine AW.aload_n (dq rfl) rfl rfl ?_
      show AW l (pI pg 140) P kc ks 56 _ _ SHF _
      refine fw_get (dq rfl) (pg_ok.2.1 140 _ _ _ _ rfl) rfl (v := .ref 33) (isTA_ok rfl (rgR_ok hJ9 rfl)) ?_
      show AW l (pI pg 140) P kc ks 59 _ _ SHF _
      refine AW.iload_n (dq rfl) rfl ?_
      show AW l (pI pg 140) P kc ks 60 _ _ SHF _
      refine fw_callVI (as := [.int (nI k)]) (dq rfl) (pg_ok.2.2.1 140 _ _ _ _ rfl) rfl (by decide +kernel) rfl rfl (c12 y1 M1 e1 q1 h3 h5 y7 M7 e7 q7 y9 M9 e9 q9) (fun y11 M11 e11 q11 => ?_)
      have hJ11 : ∀ e ∈ RR.2, M11.2.2 e.1 e.2.1 = e.2.2 := fun e he => by rw [e11]; exact hJ9 e he
      show AW l (pI pg 140) P kc ks 63 [(5, .int (((M7.1 4 0) - (Int32.ofInt 1)) - (y7))), (4, .int (y7)), (3, .int (nI k)), (2, .int (v)), (0, .ref 0), (1, .int (nI p))] [.int (y11), .int (y9)] SHF _
      refine AW.isub (dq rfl) ?_
      show AW l (pI pg 140) P kc ks 64 _ _ SHF _
      refine AW.istore (dq rfl) (by decide +kernel) ?_
      show AW l (pI pg 140) P kc ks 66 [(6, .int ((y9) - (y11))), (5, .int (((M7.1 4 0) - (Int32.ofInt 1)) - (y7))), (4, .int (y7)), (3, .int (nI k)), (2, .int (v)), (0, .ref 0), (1, .int (nI p))] [] SHF _
      refine AW.iload_n (dq rfl) rfl ?_
      show AW l (pI pg 140) P kc ks 67 _ _ SHF _
      refine AW.getsF (dq rfl) gw_946 ?_
      show AW l (pI pg 140) P kc ks 70 _ _ SHF _
      refine AW.iload (dq rfl) rfl ?_
      show AW l (pI pg 140) P kc ks 72 _ _ SHF _
      refine AW.ialdF (dq rfl) (o13 y1 M1 e1 q1 h3 h5 y7 M7 e7 q7 y9 M9 e9 q9 y11 M11 e11 q11) ?_
      show AW l (pI pg 140) P kc ks 73 _ _ SHF _
      refine AW.getsF (dq rfl) gw_946 ?_
      show AW l (pI pg 140) P kc ks 76 _ _ SHF _
      refine AW.iload (dq rfl) rfl ?_
      show AW l (pI pg 140) P kc ks 78 _ _ SHF _
      refine AW.ialdF (dq rfl) (o14 y1 M1 e1 q1 h3 h5 y7 M7 e7 q7 y9 M9 e9 q9 y11 M11 e11 q11) ?_
      show AW l (pI pg 140) P kc ks 79 _ _ SHF _
      refine AW.imul (dq rfl) ?_
      show AW l (pI pg 140) P kc ks 80 _ _ SHF _
      refine AW.iload (dq rfl) rfl ?_
      show AW l (pI pg 140) P kc ks 82 _ _ SHF _
      refine AW.imul (dq rfl) ?_
      show AW l (pI pg 140) P kc ks 83 _ _ SHF _
      refine AW.iadd (dq rfl) ?_
      show AW l (pI pg 140) P kc ks 84 _ _ SHF _
      refine AW.istore_n (dq rfl) (by decide +kernel) ?_
      show AW l (pI pg 140) P kc ks 85 [(2, .int ((v) + (((aFact.getD (y7).toNatClampNeg 0) * (aFact.getD (((M7.1 4 0) - (Int32.ofInt 1)) - (y7)).toNatClampNeg 0)) * ((y9) - (y11))))), (6, .int ((y9) - (y11))), (5, .int (((M7.1 4 0) - (Int32.ofInt 1)) - (y7))), (4, .int (y7)), (3, .int (nI k)), (0, .ref 0), (1, .int (nI p))] [] SHF _
      refine AW.iinc (dq rfl) rfl (by decide +kernel) ?_
      show AW l (pI pg 140) P kc ks 88 [(3, .int ((nI k) + Int32.ofInt 1)), (2, .int ((v) + (((aFact.getD (y7).toNatClampNeg 0) * (aFact.getD (((M7.1 4 0) - (Int32.ofInt 1)) - (y7)).toNatClampNeg 0)) * ((y9) - (y11))))), (6, .int ((y9) - (y11))), (5, .int (((M7.1 4 0) - (Int32.ofInt 1)) - (y7))), (4, .int (y7)), (0, .ref 0), (1, .int (nI p))] [] SHF _
      refine AW.goto (dq rfl) (tgt := 4) (by decide) ?_
      refine AW.drop (lv' := [(3, .int ((nI k) + Int32.ofInt 1)), (2, .int ((v) + (((aFact.getD (y7).toNatClampNeg 0) * (aFact.getD (((M7.1 4 0) - (Int32.ofInt 1)) - (y7)).toNatClampNeg 0)) * ((y9) - (y11))))), (0, .ref 0), (1, .int (nI p))]) (List.forall_mem_cons.mpr ⟨List.mem_of_getElem? (i := 0) rfl, List.forall_mem_cons.mpr ⟨List.mem_of_getElem? (i := 1) rfl, List.forall_mem_cons.mpr ⟨List.mem_of_getElem? (i := 5) rfl, List.forall_mem_cons.mpr ⟨List.mem_of_getElem? (i := 6) rfl, fun _ h => absurd h List.not_mem_nil⟩⟩⟩⟩) ?_
      exact k15 y1 M1 e1 q1 h3 h5 y7 M7 e7 q7 y9 M9 e9 q9 y11 M11 e11 q11

theorem s139a_25 {l : aL} {P : aP} {kc ks : Nat} {p : Nat} {wh : Int32} {M : aM} (hJ : ∀ e ∈ RR.2, M.2.2 e.1 e.2.1 = e.2.2)  (o1 : vp_in (M.1 4 0) 7) (Q2 : Int32 → aM → Prop) (c3 : AC l (pI pg 140) (fcI M Q2) 0 0 [.ref 0, .int (nI p)] SHF M) (Q4 : Int32 → aM → Int32 → aM → Prop) (c5 : ∀ (y2 : Int32), ∀ (M2 : aM), ∀ (e2 : M2.2.2 = M.2.2), ∀ (q2 : Q2 y2 M2), AC l (pI pg 141) (fcI M2 (Q4 y2 M2)) 0 0 [.int (aFact.getD (M.1 4 0).toNatClampNeg 0), .int (y2)] SHF M2) (d7 : ∀ (y2 : Int32), ∀ (M2 : aM), ∀ (e2 : M2.2.2 = M.2.2), ∀ (q2 : Q2 y2 M2), ∀ (y4 : Int32), ∀ (M4 : aM), ∀ (e4 : M4.2.2 = M2.2.2), ∀ (q4 : (Q4 y2 M2) y4 M4), ∀ (h6 : ¬ (wh : Int32) = 0), ¬ (y4) = (0 : Int32)) (r8 : ∀ (y2 : Int32), ∀ (M2 : aM), ∀ (e2 : M2.2.2 = M.2.2), ∀ (q2 : Q2 y2 M2), ∀ (y4 : Int32), ∀ (M4 : aM), ∀ (e4 : M4.2.2 = M2.2.2), ∀ (q4 : (Q4 y2 M2) y4 M4), ∀ (h6 : ¬ (wh : Int32) = 0), P (.inl (some (.int ((aFact.getD (M.1 4 0).toNatClampNeg 0) / (y4))))) SHF M4) (d9 : ∀ (y2 : Int32), ∀ (M2 : aM), ∀ (e2 : M2.2.2 = M.2.2), ∀ (q2 : Q2 y2 M2), ∀ (y4 : Int32), ∀ (M4 : aM), ∀ (e4 : M4.2.2 = M2.2.2), ∀ (q4 : (Q4 y2 M2) y4 M4), ∀ (h6 : (wh : Int32) = 0), ¬ (y4) = (0 : Int32)) (r10 : ∀ (y2 : Int32), ∀ (M2 : aM), ∀ (e2 : M2.2.2 = M.2.2), ∀ (q2 : Q2 y2 M2), ∀ (y4 : Int32), ∀ (M4 : aM), ∀ (e4 : M4.2.2 = M2.2.2), ∀ (q4 : (Q4 y2 M2) y4 M4), ∀ (h6 : (wh : Int32) = 0), P (.inl (some (.int ((y2) / (y4))))) SHF M4) : AW l (pI pg 139) P kc ks 25 [(0, .ref 0), (1, .int (nI p)), (2, .int (wh))] [] SHF M := by
  refine AW.getsF (dq rfl) gw_946 ?_
  show AW l (pI pg 139) P kc ks 28 _ _ SHF _
  refine AW.aload_n (dq rfl) rfl rfl ?_
  show AW l (pI pg 139) P kc ks 29 _ _ SHF _
  refine fw_get (dq rfl) (pg_ok.2.1 139 _ _ _ _ rfl) rfl (v := .ref 4) (isTA_ok rfl (rgR_ok hJ rfl)) ?_
  show AW l (pI pg 139) P kc ks 32 _ _ SHF _
  refine fw_get (dq rfl) (pg_ok.2.1 139 _ _ _ _ rfl) rfl (v := .int (M.1 4 0)) rfl ?_
  show AW l (pI pg 139) P kc ks 35 _ _ SHF _
  refine AW.ialdF (dq rfl) (o1) ?_
  show AW l (pI pg 139) P kc ks 36 _ _ SHF _
  refine AW.istore_n (dq rfl) (by decide +kernel) ?_
  show AW l (pI pg 139) P kc ks 37 [(3, .int (aFact.getD (M.1 4 0).toNatClampNeg 0)), (0, .ref 0), (1, .int (nI p)), (2, .int (wh))] [] SHF _
  refine AW.aload_n (dq rfl) rfl rfl ?_
  show AW l (pI pg 139) P kc ks 38 _ _ SHF _
  refine AW.iload_n (dq rfl) rfl ?_
  show AW l (pI pg 139) P kc ks 39 _ _ SHF _
  refine fw_callVI (as := [.int (nI p)]) (dq rfl) (pg_ok.2.2.1 139 _ _ _ _ rfl) rfl (by decide +kernel) rfl rfl (c3) (fun y2 M2 e2 q2 => ?_)
  have hJ2 : ∀ e ∈ RR.2, M2.2.2 e.1 e.2.1 = e.2.2 := fun e he => by rw [e2]; exact hJ e he
  show AW l (pI pg 139) P kc ks 42 [(3, .int (aFact.getD (M.1 4 0).toNatClampNeg 0)), (0, .ref 0), (1, .int (nI p)), (2, .int (wh))] [.int (y2)] SHF _
  refine AW.istore (dq rfl) (by decide +kernel) ?_
  show AW l (pI pg 139) P kc ks 44 [(4, .int (y2)), (3, .int (aFact.getD (M.1 4 0).toNatClampNeg 0)), (0, .ref 0), (1, .int (nI p)), (2, .int (wh))] [] SHF _
  refine AW.iload_n (dq rfl) rfl ?_
  show AW l (pI pg 139) P kc ks 45 _ _ SHF _
  refine AW.iload (dq rfl) rfl ?_
  show AW l (pI pg 139) P kc ks 47 _ _ SHF _
  refine fw_callSI (as := [.int (aFact.getD (M.1 4 0).toNatClampNeg 0), .int (y2)]) (dq rfl) (pg_ok.2.2.1 139 _ _ _ _ rfl) (by decide +kernel) rfl rfl (c5 y2 M2 e2 q2) (fun y4 M4 e4 q4 => ?_)
  have hJ4 : ∀ e ∈ RR.2, M4.2.2 e.1 e.2.1 = e.2.2 := fun e he => by rw [e4]; exact hJ2 e he
  show AW l (pI pg 139) P kc ks 50 [(4, .int (y2)), (3, .int (aFact.getD (M.1 4 0).toNatClampNeg 0)), (0, .ref 0), (1, .int (nI p)), (2, .int (wh))] [.int (y4)] SHF _
  refine AW.istore (dq rfl) (by decide +kernel) ?_
  show AW l (pI pg 139) P kc ks 52 [(5, .int (y4)), (4, .int (y2)), (3, .int (aFact.getD (M.1 4 0).toNatClampNeg 0)), (0, .ref 0), (1, .int (nI p)), (2, .int (wh))] [] SHF _
  refine AW.iload_n (dq rfl) rfl ?_
  show AW l (pI pg 139) P kc ks 53 _ _ SHF _
  refine AW.if_ne (dq rfl) (tgt := 61) (by decide) (fun h6 => ?_) (fun h6 => ?_)
  · have _ := h6
    refine AW.iload_n (dq rfl) rfl ?_
    show AW l (pI pg 139) P kc ks 62 _ _ SHF _
    refine AW.iload (dq rfl) rfl ?_
    show AW l (pI pg 139) P kc ks 64 _ _ SHF _
    refine AW.idiv (dq rfl) (d7 y2 M2 e2 q2 y4 M4 e4 q4 h6) ?_
    show AW l (pI pg 139) P kc ks 65 _ _ SHF _
    refine AW.iret (dq rfl) rfl ?_
    exact r8 y2 M2 e2 q2 y4 M4 e4 q4 h6
  · have _ := h6
    refine AW.iload (dq rfl) rfl ?_
    show AW l (pI pg 139) P kc ks 58 _ _ SHF _
    refine AW.goto (dq rfl) (tgt := 62) (by decide) ?_
    refine AW.iload (dq rfl) rfl ?_
    show AW l (pI pg 139) P kc ks 64 _ _ SHF _
    refine AW.idiv (dq rfl) (d9 y2 M2 e2 q2 y4 M4 e4 q4 h6) ?_
    show AW l (pI pg 139) P kc ks 65 _ _ SHF _
    refine AW.iret (dq rfl) rfl ?_
    exact r10 y2 M2 e2 q2 y4 M4 e4 q4 h6

theorem s140b_0 {l : aL} {P : aP} {kc ks : Nat} {p : Nat} {M : aM} (hJ : ∀ e ∈ RRS.2, M.2.2 e.1 e.2.1 = e.2.2)  (k1 : AW l (pI pg 140) P kc ks 4 [(3, .int (Int32.ofInt 0)), (2, .int (Int32.ofInt 0)), (0, .ref 0), (1, .int (nI p))] [] SHF M) : AW l (pI pg 140) P kc ks 0 [(0, .ref 0), (1, .int (nI p))] [] SHF M := by
  refine AW.iconst (dq rfl) ?_
  show AW l (pI pg 140) P kc ks 1 _ _ SHF _
  refine AW.istore_n (dq rfl) (by decide +kernel) ?_
  show AW l (pI pg 140) P kc ks 2 [(2, .int (Int32.ofInt 0)), (0, .ref 0), (1, .int (nI p))] [] SHF _
  refine AW.iconst (dq rfl) ?_
  show AW l (pI pg 140) P kc ks 3 _ _ SHF _
  refine AW.istore_n (dq rfl) (by decide +kernel) ?_
  show AW l (pI pg 140) P kc ks 4 [(3, .int (Int32.ofInt 0)), (2, .int (Int32.ofInt 0)), (0, .ref 0), (1, .int (nI p))] [] SHF _
  refine AW.drop (lv' := [(3, .int (Int32.ofInt 0)), (2, .int (Int32.ofInt 0)), (0, .ref 0), (1, .int (nI p))]) (List.forall_mem_cons.mpr ⟨List.mem_of_getElem? (i := 0) rfl, List.forall_mem_cons.mpr ⟨List.mem_of_getElem? (i := 1) rfl, List.forall_mem_cons.mpr ⟨List.mem_of_getElem? (i := 2) rfl, List.forall_mem_cons.mpr ⟨List.mem_of_getElem? (i := 3) rfl, fun _ h => absurd h List.not_mem_nil⟩⟩⟩⟩) ?_
  exact k1

theorem s140b_4 {l : aL} {P : aP} {kc ks : Nat} {k p : Nat} {v : Int32} {M : aM} (hJ : ∀ e ∈ RRS.2, M.2.2 e.1 e.2.1 = e.2.2)  (Q1 : Int32 → aM → Prop) (c2 : AC l (pI pg 32) (fcI M Q1) 0 0 [.ref 17] SHF M) (r4 : ∀ (y1 : Int32), ∀ (M1 : aM), ∀ (e1 : M1.2.2 = M.2.2), ∀ (q1 : Q1 y1 M1), ∀ (h3 : (y1 : Int32) < (nI k : Int32)), P (.inl (some (.int (v)))) SHF M1) (k6 : ∀ (y1 : Int32), ∀ (M1 : aM), ∀ (e1 : M1.2.2 = M.2.2), ∀ (q1 : Q1 y1 M1), ∀ (h3 : ¬ ((y1 : Int32) < (nI k : Int32))), ∀ (h5 : ¬ (((nI k) >>> ((nI p) &&& 31)) &&& (Int32.ofInt 1) : Int32) = 0), AW l (pI pg 140) P kc ks 4 [(3, .int ((nI k) + Int32.ofInt 1)), (2, .int (v)), (0, .ref 0), (1, .int (nI p))] [] SHF M1) (Q7 : Int32 → aM → Int32 → aM → Prop) (c8 : ∀ (y1 : Int32), ∀ (M1 : aM), ∀ (e1 : M1.2.2 = M.2.2), ∀ (q1 : Q1 y1 M1), ∀ (h3 : ¬ ((y1 : Int32) < (nI k : Int32))), ∀ (h5 : (((nI k) >>> ((nI p) &&& 31)) &&& (Int32.ofInt 1) : Int32) = 0), AC l (pI pg 21) (fcI M1 (Q7 y1 M1)) 0 0 [.int (nI k)] SHF M1) (Q9 : Int32 → aM → Int32 → aM → Int32 → aM → Prop) (c10 : ∀ (y1 : Int32), ∀ (M1 : aM), ∀ (e1 : M1.2.2 = M.2.2), ∀ (q1 : Q1 y1 M1), ∀ (h3 : ¬ ((y1 : Int32) < (nI k : Int32))), ∀ (h5 : (((nI k) >>> ((nI p) &&& 31)) &&& (Int32.ofInt 1) : Int32) = 0), ∀ (y7 : Int32), ∀ (M7 : aM), ∀ (e7 : M7.2.2 = M1.2.2), ∀ (q7 : (Q7 y1 M1) y7 M7), AC l (pI pg 115) (fcI M7 (Q9 y1 M1 y7 M7)) 0 0 [.ref 33, .int ((nI k) ||| ((Int32.ofInt 1) <<< ((nI p) &&& 31)))] SHF M7) (Q11 : Int32 → aM → Int32 → aM → Int32 → aM → Int32 → aM → Prop) (c12 : ∀ (y1 : Int32), ∀ (M1 : aM), ∀ (e1 : M1.2.2 = M.2.2), ∀ (q1 : Q1 y1 M1), ∀ (h3 : ¬ ((y1 : Int32) < (nI k : Int32))), ∀ (h5 : (((nI k) >>> ((nI p) &&& 31)) &&& (Int32.ofInt 1) : Int32) = 0), ∀ (y7 : Int32), ∀ (M7 : aM), ∀ (e7 : M7.2.2 = M1.2.2), ∀ (q7 : (Q7 y1 M1) y7 M7), ∀ (y9 : Int32), ∀ (M9 : aM), ∀ (e9 : M9.2.2 = M7.2.2), ∀ (q9 : (Q9 y1 M1 y7 M7) y9 M9), AC l (pI pg 115) (fcI M9 (Q11 y1 M1 y7 M7 y9 M9)) 0 0 [.ref 33, .int (nI k)] SHF M9) (o13 : ∀ (y1 : Int32), ∀ (M1 : aM), ∀ (e1 : M1.2.2 = M.2.2), ∀ (q1 : Q1 y1 M1), ∀ (h3 : ¬ ((y1 : Int32) < (nI k : Int32))), ∀ (h5 : (((nI k) >>> ((nI p) &&& 31)) &&& (Int32.ofInt 1) : Int32) = 0), ∀ (y7 : Int32), ∀ (M7 : aM), ∀ (e7 : M7.2.2 = M1.2.2), ∀ (q7 : (Q7 y1 M1) y7 M7), ∀ (y9 : Int32), ∀ (M9 : aM), ∀ (e9 : M9.2.2 = M7.2.2), ∀ (q9 : (Q9 y1 M1 y7 M7) y9 M9), ∀ (y11 : Int32), ∀ (M11 : aM), ∀ (e11 : M11.2.2 = M9.2.2), ∀ (q11 : (Q11 y1 M1 y7 M7 y9 M9) y11 M11), vp_in (y7) 7) (o14 : ∀ (y1 : Int32), ∀ (M1 : aM), ∀ (e1 : M1.2.2 = M.2.2), ∀ (q1 : Q1 y1 M1), ∀ (h3 : ¬ ((y1 : Int32) < (nI k : Int32))), ∀ (h5 : (((nI k) >>> ((nI p) &&& 31)) &&& (Int32.ofInt 1) : Int32) = 0), ∀ (y7 : Int32), ∀ (M7 : aM), ∀ (e7 : M7.2.2 = M1.2.2), ∀ (q7 : (Q7 y1 M1) y7 M7), ∀ (y9 : Int32), ∀ (M9 : aM), ∀ (e9 : M9.2.2 = M7.2.2), ∀ (q9 : (Q9 y1 M1 y7 M7) y9 M9), ∀ (y11 : Int32), ∀ (M11 : aM), ∀ (e11 : M11.2.2 = M9.2.2), ∀ (q11 : (Q11 y1 M1 y7 M7 y9 M9) y11 M11), vp_in (((M7.1 17 0) - (Int32.ofInt 1)) - (y7)) 7) (k15 : ∀ (y1 : Int32), ∀ (M1 : aM), ∀ (e1 : M1.2.2 = M.2.2), ∀ (q1 : Q1 y1 M1), ∀ (h3 : ¬ ((y1 : Int32) < (nI k : Int32))), ∀ (h5 : (((nI k) >>> ((nI p) &&& 31)) &&& (Int32.ofInt 1) : Int32) = 0), ∀ (y7 : Int32), ∀ (M7 : aM), ∀ (e7 : M7.2.2 = M1.2.2), ∀ (q7 : (Q7 y1 M1) y7 M7), ∀ (y9 : Int32), ∀ (M9 : aM), ∀ (e9 : M9.2.2 = M7.2.2), ∀ (q9 : (Q9 y1 M1 y7 M7) y9 M9), ∀ (y11 : Int32), ∀ (M11 : aM), ∀ (e11 : M11.2.2 = M9.2.2), ∀ (q11 : (Q11 y1 M1 y7 M7 y9 M9) y11 M11), AW l (pI pg 140) P kc ks 4 [(3, .int ((nI k) + Int32.ofInt 1)), (2, .int ((v) + (((aFact.getD (y7).toNatClampNeg 0) * (aFact.getD (((M7.1 17 0) - (Int32.ofInt 1)) - (y7)).toNatClampNeg 0)) * ((y9) - (y11))))), (0, .ref 0), (1, .int (nI p))] [] SHF M11) : AW l (pI pg 140) P kc ks 4 [(3, .int (nI k)), (2, .int (v)), (0, .ref 0), (1, .int (nI p))] [] SHF M := by
  refine AW.iload_n (dq rfl) rfl ?_
  show AW l (pI pg 140) P kc ks 5 _ _ SHF _
  refine AW.aload_n (dq rfl) rfl rfl ?_
  show AW l (pI pg 140) P kc ks 6 _ _ SHF _
  refine fw_get (dq rfl) (pg_ok.2.1 140 _ _ _ _ rfl) rfl (v := .ref 17) (isTA_ok rfl (rgR_ok hJ rfl)) ?_
  show AW l (pI pg 140) P kc ks 9 _ _ SHF _
  refine fw_callVI (as := []) (dq rfl) (pg_ok.2.2.1 140 _ _ _ _ rfl) rfl (by decide +kernel) rfl rfl (c2) (fun y1 M1 e1 q1 => ?_)
  have hJ1 : ∀ e ∈ RRS.2, M1.2.2 e.1 e.2.1 = e.2.2 := fun e he => by rw [e1]; exact hJ e he
  show AW l (pI pg 140) P kc ks 12 [(3, .int (nI k)), (2, .int (v)), (0, .ref 0), (1, .int (nI p))] [.int (y1), .int (nI k)] SHF _
  refine AW.icmp_gt (dq rfl) (tgt := 91) (by decide) (fun h3 => ?_) (fun h3 => ?_)
  · have _ := h3
    refine AW.iload_n (dq rfl) rfl ?_
    show AW l (pI pg 140) P kc ks 92 _ _ SHF _
    refine AW.iret (dq rfl) rfl ?_
    exact r4 y1 M1 e1 q1 h3
  · have _ := h3
    refine AW.iload_n (dq rfl) rfl ?_
    show AW l (pI pg 140) P kc ks 16 _ _ SHF _
    refine AW.iload_n (dq rfl) rfl ?_
    show AW l (pI pg 140) P kc ks 17 _ _ SHF _
    refine AW.ishr (dq rfl) ?_
    show AW l (pI pg 140) P kc ks 18 _ _ SHF _
    refine AW.iconst (dq rfl) ?_
    show AW l (pI pg 140) P kc ks 19 _ _ SHF _
    refine AW.iand (dq rfl) ?_
    show AW l (pI pg 140) P kc ks 20 _ _ SHF _
    refine AW.if_ne (dq rfl) (tgt := 85) (by decide) (fun h5 => ?_) (fun h5 => ?_)
    · have _ := h5
      refine AW.iinc (dq rfl) rfl (by decide +kernel) ?_
      show AW l (pI pg 140) P kc ks 88 [(3, .int ((nI k) + Int32.ofInt 1)), (2, .int (v)), (0, .ref 0), (1, .int (nI p))] [] SHF _
      refine AW.goto (dq rfl) (tgt := 4) (by decide) ?_
      refine AW.drop (lv' := [(3, .int ((nI k) + Int32.ofInt 1)), (2, .int (v)), (0, .ref 0), (1, .int (nI p))]) (List.forall_mem_cons.mpr ⟨List.mem_of_getElem? (i := 0) rfl, List.forall_mem_cons.mpr ⟨List.mem_of_getElem? (i := 1) rfl, List.forall_mem_cons.mpr ⟨List.mem_of_getElem? (i := 2) rfl, List.forall_mem_cons.mpr ⟨List.mem_of_getElem? (i := 3) rfl, fun _ h => absurd h List.not_mem_nil⟩⟩⟩⟩) ?_
      exact k6 y1 M1 e1 q1 h3 h5
    · have _ := h5
      refine AW.iload_n (dq rfl) rfl ?_
      show AW l (pI pg 140) P kc ks 24 _ _ SHF _
      refine fw_callSI (as := [.int (nI k)]) (dq rfl) (pg_ok.2.2.1 140 _ _ _ _ rfl) (by decide +kernel) rfl rfl (c8 y1 M1 e1 q1 h3 h5) (fun y7 M7 e7 q7 => ?_)
      have hJ7 : ∀ e ∈ RRS.2, M7.2.2 e.1 e.2.1 = e.2.2 := fun e he => by rw [e7]; exact hJ1 e he
      show AW l (pI pg 140) P kc ks 27 [(3, .int (nI k)), (2, .int (v)), (0, .ref 0), (1, .int (nI p))] [.int (y7)] SHF _
      refine AW.istore (dq rfl) (by decide +kernel) ?_
      show AW l (pI pg 140) P kc ks 29 [(4, .int (y7)), (3, .int (nI k)), (2, .int (v)), (0, .ref 0), (1, .int (nI p))] [] SHF _
      refine AW.aload_n (dq rfl) rfl rfl ?_
      show AW l (pI pg 140) P kc ks 30 _ _ SHF _
      refine fw_get (dq rfl) (pg_ok.2.1 140 _ _ _ _ rfl) rfl (v := .ref 17) (isTA_ok rfl (rgR_ok hJ7 rfl)) ?_
      show AW l (pI pg 140) P kc ks 33 _ _ SHF _
      refine fw_get (dq rfl) (pg_ok.2.1 140 _ _ _ _ rfl) rfl (v := .int (M7.1 17 0)) rfl ?_
      show AW l (pI pg 140) P kc ks 36 _ _ SHF _
      refine AW.iconst (dq rfl) ?_
      show AW l (pI pg 140) P kc ks 37 _ _ SHF _
      refine AW.isub (dq rfl) ?_
      show AW l (pI pg 140) P kc ks 38 _ _ SHF _
      refine AW.iload (dq rfl) rfl ?_
      show AW l (pI pg 140) P kc ks 40 _ _ SHF _
      refine AW.isub (dq rfl) ?_
      show AW l (pI pg 140) P kc ks 41 _ _ SHF _
      refine AW.istore (dq rfl) (by decide +kernel) ?_
      show AW l (pI pg 140) P kc ks 43 [(5, .int (((M7.1 17 0) - (Int32.ofInt 1)) - (y7))), (4, .int (y7)), (3, .int (nI k)), (2, .int (v)), (0, .ref 0), (1, .int (nI p))] [] SHF _
      refine AW.aload_n (dq rfl) rfl rfl ?_
      show AW l (pI pg 140) P kc ks 44 _ _ SHF _
      refine fw_get (dq rfl) (pg_ok.2.1 140 _ _ _ _ rfl) rfl (v := .ref 33) (isTA_ok rfl (rgR_ok hJ7 rfl)) ?_
      show AW l (pI pg 140) P kc ks 47 _ _ SHF _
      refine AW.iload_n (dq rfl) rfl ?_
      show AW l (pI pg 140) P kc ks 48 _ _ SHF _
      refine AW.iconst (dq rfl) ?_
      show AW l (pI pg 140) P kc ks 49 _ _ SHF _
      refine AW.iload_n (dq rfl) rfl ?_
      show AW l (pI pg 140) P kc ks 50 _ _ SHF _
      refine AW.ishl (dq rfl) ?_
      show AW l (pI pg 140) P kc ks 51 _ _ SHF _
      refine AW.ior (dq rfl) ?_
      show AW l (pI pg 140) P kc ks 52 _ _ SHF _
      refine fw_callVI (as := [.int ((nI k) ||| ((Int32.ofInt 1) <<< ((nI p) &&& 31)))]) (dq rfl) (pg_ok.2.2.1 140 _ _ _ _ rfl) rfl (by decide +kernel) rfl rfl (c10 y1 M1 e1 q1 h3 h5 y7 M7 e7 q7) (fun y9 M9 e9 q9 => ?_)
      have hJ9 : ∀ e ∈ RRS.2, M9.2.2 e.1 e.2.1 = e.2.2 := fun e he => by rw [e9]; exact hJ7 e he
      show AW l (pI pg 140) P kc ks 55 [(5, .int (((M7.1 17 0) - (Int32.ofInt 1)) - (y7))), (4, .int (y7)), (3, .int (nI k)), (2, .int (v)), (0, .ref 0), (1, .int (nI p))] [.int (y9)] SHF _
      refine AW.aload_n (dq rfl) rfl rfl ?_
      show AW l (pI pg 140) P kc ks 56 _ _ SHF _
      refine fw_get (dq rfl) (pg_ok.2.1 140 _ _ _ _ rfl) rfl (v := .ref 33) (isTA_ok rfl (rgR_ok hJ9 rfl)) ?_
      show AW l (pI pg 140) P kc ks 59 _ _ SHF _
      refine AW.iload_n (dq rfl) rfl ?_
      show AW l (pI pg 140) P kc ks 60 _ _ SHF _
      refine fw_callVI (as := [.int (nI k)]) (dq rfl) (pg_ok.2.2.1 140 _ _ _ _ rfl) rfl (by decide +kernel) rfl rfl (c12 y1 M1 e1 q1 h3 h5 y7 M7 e7 q7 y9 M9 e9 q9) (fun y11 M11 e11 q11 => ?_)
      have hJ11 : ∀ e ∈ RRS.2, M11.2.2 e.1 e.2.1 = e.2.2 := fun e he => by rw [e11]; exact hJ9 e he
      show AW l (pI pg 140) P kc ks 63 [(5, .int (((M7.1 17 0) - (Int32.ofInt 1)) - (y7))), (4, .int (y7)), (3, .int (nI k)), (2, .int (v)), (0, .ref 0), (1, .int (nI p))] [.int (y11), .int (y9)] SHF _
      refine AW.isub (dq rfl) ?_
      show AW l (pI pg 140) P kc ks 64 _ _ SHF _
      refine AW.istore (dq rfl) (by decide +kernel) ?_
      show AW l (pI pg 140) P kc ks 66 [(6, .int ((y9) - (y11))), (5, .int (((M7.1 17 0) - (Int32.ofInt 1)) - (y7))), (4, .int (y7)), (3, .int (nI k)), (2, .int (v)), (0, .ref 0), (1, .int (nI p))] [] SHF _
      refine AW.iload_n (dq rfl) rfl ?_
      show AW l (pI pg 140) P kc ks 67 _ _ SHF _
      refine AW.getsF (dq rfl) gw_946 ?_
      show AW l (pI pg 140) P kc ks 70 _ _ SHF _
      refine AW.iload (dq rfl) rfl ?_
      show AW l (pI pg 140) P kc ks 72 _ _ SHF _
      refine AW.ialdF (dq rfl) (o13 y1 M1 e1 q1 h3 h5 y7 M7 e7 q7 y9 M9 e9 q9 y11 M11 e11 q11) ?_
      show AW l (pI pg 140) P kc ks 73 _ _ SHF _
      refine AW.getsF (dq rfl) gw_946 ?_
      show AW l (pI pg 140) P kc ks 76 _ _ SHF _
      refine AW.iload (dq rfl) rfl ?_
      show AW l (pI pg 140) P kc ks 78 _ _ SHF _
      refine AW.ialdF (dq rfl) (o14 y1 M1 e1 q1 h3 h5 y7 M7 e7 q7 y9 M9 e9 q9 y11 M11 e11 q11) ?_
      show AW l (pI pg 140) P kc ks 79 _ _ SHF _
      refine AW.imul (dq rfl) ?_
      show AW l (pI pg 140) P kc ks 80 _ _ SHF _
      refine AW.iload (dq rfl) rfl ?_
      show AW l (pI pg 140) P kc ks 82 _ _ SHF _
      refine AW.imul (dq rfl) ?_
      show AW l (pI pg 140) P kc ks 83 _ _ SHF _
      refine AW.iadd (dq rfl) ?_
      show AW l (pI pg 140) P kc ks 84 _ _ SHF _
      refine AW.istore_n (dq rfl) (by decide +kernel) ?_
      show AW l (pI pg 140) P kc ks 85 [(2, .int ((v) + (((aFact.getD (y7).toNatClampNeg 0) * (aFact.getD (((M7.1 17 0) - (Int32.ofInt 1)) - (y7)).toNatClampNeg 0)) * ((y9) - (y11))))), (6, .int ((y9) - (y11))), (5, .int (((M7.1 17 0) - (Int32.ofInt 1)) - (y7))), (4, .int (y7)), (3, .int (nI k)), (0, .ref 0), (1, .int (nI p))] [] SHF _
      refine AW.iinc (dq rfl) rfl (by decide +kernel) ?_
      show AW l (pI pg 140) P kc ks 88 [(3, .int ((nI k) + Int32.ofInt 1)), (2, .int ((v) + (((aFact.getD (y7).toNatClampNeg 0) * (aFact.getD (((M7.1 17 0) - (Int32.ofInt 1)) - (y7)).toNatClampNeg 0)) * ((y9) - (y11))))), (6, .int ((y9) - (y11))), (5, .int (((M7.1 17 0) - (Int32.ofInt 1)) - (y7))), (4, .int (y7)), (0, .ref 0), (1, .int (nI p))] [] SHF _
      refine AW.goto (dq rfl) (tgt := 4) (by decide) ?_
      refine AW.drop (lv' := [(3, .int ((nI k) + Int32.ofInt 1)), (2, .int ((v) + (((aFact.getD (y7).toNatClampNeg 0) * (aFact.getD (((M7.1 17 0) - (Int32.ofInt 1)) - (y7)).toNatClampNeg 0)) * ((y9) - (y11))))), (0, .ref 0), (1, .int (nI p))]) (List.forall_mem_cons.mpr ⟨List.mem_of_getElem? (i := 0) rfl, List.forall_mem_cons.mpr ⟨List.mem_of_getElem? (i := 1) rfl, List.forall_mem_cons.mpr ⟨List.mem_of_getElem? (i := 5) rfl, List.forall_mem_cons.mpr ⟨List.mem_of_getElem? (i := 6) rfl, fun _ h => absurd h List.not_mem_nil⟩⟩⟩⟩) ?_
      exact k15 y1 M1 e1 q1 h3 h5 y7 M7 e7 q7 y9 M9 e9 q9 y11 M11 e11 q11

theorem s139b_25 {l : aL} {P : aP} {kc ks : Nat} {p : Nat} {wh : Int32} {M : aM} (hJ : ∀ e ∈ RRS.2, M.2.2 e.1 e.2.1 = e.2.2)  (o1 : vp_in (M.1 17 0) 7) (Q2 : Int32 → aM → Prop) (c3 : AC l (pI pg 140) (fcI M Q2) 0 0 [.ref 0, .int (nI p)] SHF M) (Q4 : Int32 → aM → Int32 → aM → Prop) (c5 : ∀ (y2 : Int32), ∀ (M2 : aM), ∀ (e2 : M2.2.2 = M.2.2), ∀ (q2 : Q2 y2 M2), AC l (pI pg 141) (fcI M2 (Q4 y2 M2)) 0 0 [.int (aFact.getD (M.1 17 0).toNatClampNeg 0), .int (y2)] SHF M2) (d7 : ∀ (y2 : Int32), ∀ (M2 : aM), ∀ (e2 : M2.2.2 = M.2.2), ∀ (q2 : Q2 y2 M2), ∀ (y4 : Int32), ∀ (M4 : aM), ∀ (e4 : M4.2.2 = M2.2.2), ∀ (q4 : (Q4 y2 M2) y4 M4), ∀ (h6 : ¬ (wh : Int32) = 0), ¬ (y4) = (0 : Int32)) (r8 : ∀ (y2 : Int32), ∀ (M2 : aM), ∀ (e2 : M2.2.2 = M.2.2), ∀ (q2 : Q2 y2 M2), ∀ (y4 : Int32), ∀ (M4 : aM), ∀ (e4 : M4.2.2 = M2.2.2), ∀ (q4 : (Q4 y2 M2) y4 M4), ∀ (h6 : ¬ (wh : Int32) = 0), P (.inl (some (.int ((aFact.getD (M.1 17 0).toNatClampNeg 0) / (y4))))) SHF M4) (d9 : ∀ (y2 : Int32), ∀ (M2 : aM), ∀ (e2 : M2.2.2 = M.2.2), ∀ (q2 : Q2 y2 M2), ∀ (y4 : Int32), ∀ (M4 : aM), ∀ (e4 : M4.2.2 = M2.2.2), ∀ (q4 : (Q4 y2 M2) y4 M4), ∀ (h6 : (wh : Int32) = 0), ¬ (y4) = (0 : Int32)) (r10 : ∀ (y2 : Int32), ∀ (M2 : aM), ∀ (e2 : M2.2.2 = M.2.2), ∀ (q2 : Q2 y2 M2), ∀ (y4 : Int32), ∀ (M4 : aM), ∀ (e4 : M4.2.2 = M2.2.2), ∀ (q4 : (Q4 y2 M2) y4 M4), ∀ (h6 : (wh : Int32) = 0), P (.inl (some (.int ((y2) / (y4))))) SHF M4) : AW l (pI pg 139) P kc ks 25 [(0, .ref 0), (1, .int (nI p)), (2, .int (wh))] [] SHF M := by
  refine AW.getsF (dq rfl) gw_946 ?_
  show AW l (pI pg 139) P kc ks 28 _ _ SHF _
  refine AW.aload_n (dq rfl) rfl rfl ?_
  show AW l (pI pg 139) P kc ks 29 _ _ SHF _
  refine fw_get (dq rfl) (pg_ok.2.1 139 _ _ _ _ rfl) rfl (v := .ref 17) (isTA_ok rfl (rgR_ok hJ rfl)) ?_
  show AW l (pI pg 139) P kc ks 32 _ _ SHF _
  refine fw_get (dq rfl) (pg_ok.2.1 139 _ _ _ _ rfl) rfl (v := .int (M.1 17 0)) rfl ?_
  show AW l (pI pg 139) P kc ks 35 _ _ SHF _
  refine AW.ialdF (dq rfl) (o1) ?_
  show AW l (pI pg 139) P kc ks 36 _ _ SHF _
  refine AW.istore_n (dq rfl) (by decide +kernel) ?_
  show AW l (pI pg 139) P kc ks 37 [(3, .int (aFact.getD (M.1 17 0).toNatClampNeg 0)), (0, .ref 0), (1, .int (nI p)), (2, .int (wh))] [] SHF _
  refine AW.aload_n (dq rfl) rfl rfl ?_
  show AW l (pI pg 139) P kc ks 38 _ _ SHF _
  refine AW.iload_n (dq rfl) rfl ?_
  show AW l (pI pg 139) P kc ks 39 _ _ SHF _
  refine fw_callVI (as := [.int (nI p)]) (dq rfl) (pg_ok.2.2.1 139 _ _ _ _ rfl) rfl (by decide +kernel) rfl rfl (c3) (fun y2 M2 e2 q2 => ?_)
  have hJ2 : ∀ e ∈ RRS.2, M2.2.2 e.1 e.2.1 = e.2.2 := fun e he => by rw [e2]; exact hJ e he
  show AW l (pI pg 139) P kc ks 42 [(3, .int (aFact.getD (M.1 17 0).toNatClampNeg 0)), (0, .ref 0), (1, .int (nI p)), (2, .int (wh))] [.int (y2)] SHF _
  refine AW.istore (dq rfl) (by decide +kernel) ?_
  show AW l (pI pg 139) P kc ks 44 [(4, .int (y2)), (3, .int (aFact.getD (M.1 17 0).toNatClampNeg 0)), (0, .ref 0), (1, .int (nI p)), (2, .int (wh))] [] SHF _
  refine AW.iload_n (dq rfl) rfl ?_
  show AW l (pI pg 139) P kc ks 45 _ _ SHF _
  refine AW.iload (dq rfl) rfl ?_
  show AW l (pI pg 139) P kc ks 47 _ _ SHF _
  refine fw_callSI (as := [.int (aFact.getD (M.1 17 0).toNatClampNeg 0), .int (y2)]) (dq rfl) (pg_ok.2.2.1 139 _ _ _ _ rfl) (by decide +kernel) rfl rfl (c5 y2 M2 e2 q2) (fun y4 M4 e4 q4 => ?_)
  have hJ4 : ∀ e ∈ RRS.2, M4.2.2 e.1 e.2.1 = e.2.2 := fun e he => by rw [e4]; exact hJ2 e he
  show AW l (pI pg 139) P kc ks 50 [(4, .int (y2)), (3, .int (aFact.getD (M.1 17 0).toNatClampNeg 0)), (0, .ref 0), (1, .int (nI p)), (2, .int (wh))] [.int (y4)] SHF _
  refine AW.istore (dq rfl) (by decide +kernel) ?_
  show AW l (pI pg 139) P kc ks 52 [(5, .int (y4)), (4, .int (y2)), (3, .int (aFact.getD (M.1 17 0).toNatClampNeg 0)), (0, .ref 0), (1, .int (nI p)), (2, .int (wh))] [] SHF _
  refine AW.iload_n (dq rfl) rfl ?_
  show AW l (pI pg 139) P kc ks 53 _ _ SHF _
  refine AW.if_ne (dq rfl) (tgt := 61) (by decide) (fun h6 => ?_) (fun h6 => ?_)
  · have _ := h6
    refine AW.iload_n (dq rfl) rfl ?_
    show AW l (pI pg 139) P kc ks 62 _ _ SHF _
    refine AW.iload (dq rfl) rfl ?_
    show AW l (pI pg 139) P kc ks 64 _ _ SHF _
    refine AW.idiv (dq rfl) (d7 y2 M2 e2 q2 y4 M4 e4 q4 h6) ?_
    show AW l (pI pg 139) P kc ks 65 _ _ SHF _
    refine AW.iret (dq rfl) rfl ?_
    exact r8 y2 M2 e2 q2 y4 M4 e4 q4 h6
  · have _ := h6
    refine AW.iload (dq rfl) rfl ?_
    show AW l (pI pg 139) P kc ks 58 _ _ SHF _
    refine AW.goto (dq rfl) (tgt := 62) (by decide) ?_
    refine AW.iload (dq rfl) rfl ?_
    show AW l (pI pg 139) P kc ks 64 _ _ SHF _
    refine AW.idiv (dq rfl) (d9 y2 M2 e2 q2 y4 M4 e4 q4 h6) ?_
    show AW l (pI pg 139) P kc ks 65 _ _ SHF _
    refine AW.iret (dq rfl) rfl ?_
    exact r10 y2 M2 e2 q2 y4 M4 e4 q4 h6

