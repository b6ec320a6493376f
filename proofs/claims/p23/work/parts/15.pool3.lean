theorem pg_1 (id pc : Nat) (i : Instr) (n : Nat) (h : lk2 (eL id).2.2.2.2 (Nat.div pc 64) pc = some (i, n)) : decode (iC (eL id).2.2.2.1) pc = .ok (i, n) := by
  have o := eL_ok id
  generalize eL id = x at h o ⊢
  obtain ⟨l, h1, h2⟩ := lk2_mem h
  have h9 := o.1 _ h1
  have h10 := h9 _ h2
  exact h10
theorem pg_2 (id n ci k f : Nat) (h : lk2 fL (eL id).1 n = some (ci, k, f)) : okF (eL id).2.2.2.1 n ci k f := by
  have o := eL_ok id
  generalize eL id = x at h o ⊢
  obtain ⟨l, h1, h2⟩ := lk2_mem h
  exact fL_ok _ h1 _ o.2.1 _ h2
theorem pg_3 (id n mj kd np : Nat) (h : lk2 mL (eL id).1 n = some (mj, kd, np)) : okM (eL id).2.2.2.1 (pI pg mj) n kd np (pN pg mj) := by
  have o := eL_ok id
  generalize eL id = x at h o ⊢
  obtain ⟨l, h1, h2⟩ := lk2_mem h
  exact mL_ok _ h1 _ o.2.1 _ h2
theorem pg_4 (id n ci : Nat) (h : lk2 cL (eL id).1 n = some ci) : okC (eL id).2.2.2.1 n ci := by
  have o := eL_ok id
  generalize eL id = x at h o ⊢
  obtain ⟨l, h1, h2⟩ := lk2_mem h
  exact cL_ok _ h1 _ o.2.1 _ h2
theorem pg_5 (id n : Nat) (v : Int32) (h : lk2 kL (eL id).1 n = some v) : Cond.constant (iO (eL id).2.2.2.1) n v ∈ GW := by
  have o := eL_ok id
  generalize eL id = x at h o ⊢
  obtain ⟨l, h1, h2⟩ := lk2_mem h
  exact kL_ok _ h1 _ o.2.1 _ h2
theorem pg_6 (id n : Nat) (v : Int64) (h : lk2 jL (eL id).1 n = some v) : Cond.constantLong (iO (eL id).2.2.2.1) n v ∈ GW := by
  have o := eL_ok id
  generalize eL id = x at h o ⊢
  obtain ⟨l, h1, h2⟩ := lk2_mem h
  exact jL_ok _ h1 _ o.2.1 _ h2
def tE (mi : aI) (pc : Nat) (X : String) : Prop := ∀ (l : aL) (P : aP) (kc ks : Nat) (lv : List (Nat × Value)) (sh : aH) (M : aM), P (.inr X) (false, sh.2) M → AW l mi P (kc + 1) (ks + 6) pc lv [] sh M
def hE (mi : aI) (pc : Nat) (X : String) (k : Int) : Prop := ∀ (l : aL) (P : aP) (kc ks : Nat) (lv : List (Nat × Value)) (sh : aH) (M : aM), P (.inl (some (.int (Int32.ofInt k)))) sh M → AX l mi P kc ks pc lv sh M X
theorem dR {c : ByteArray} {t : List (Nat × List (Nat × Instr × Nat))} (h : ∀ b ∈ t, ∀ y ∈ b.2, decode c y.1 = .ok (y.2.1, y.2.2)) {pc n : Nat} {i : Instr} (e : lk2 t (Nat.div pc 64) pc = some (i, n)) : decode c pc = .ok (i, n) := by
  obtain ⟨l, h1, h2⟩ := lk2_mem e
  have h9 := h _ h1
  have h10 := h9 _ h2
  exact h10
def t3B (w : Cond) : Bool := (lw_tbl.any (fun x => decide (x = w)) && goodWord w) || (aDecls.any (fun y => decide (w = .declares y)) || aXs.any (fun y => decide (w = .castable y y)))
theorem t3x {w : Cond} (h : t3B w = true) : w ∈ GW ∨ (∃ y ∈ aDecls, w = .declares y) ∨ ∃ y ∈ aXs, w = .castable y y := by
  simp only [t3B, Bool.or_eq_true, Bool.and_eq_true, List.any_eq_true, decide_eq_true_eq] at h
  rcases h with ⟨⟨x, h1, h2⟩, h3⟩ | ⟨y, h1, h2⟩ | ⟨y, h1, h2⟩
  · subst h2
    exact Or.inl (GW_of h1 h3)
  · exact Or.inr (Or.inl ⟨y, h1, h2⟩)
  · exact Or.inr (Or.inr ⟨y, h1, h2⟩)
theorem cT_a3 : (ntAtoms "FullHouse" 102 "java/lang/IllegalArgumentException" "java/lang/RuntimeException" 7 Bundle.six ["java/lang/Exception"]).all (fun w => !vx_no w || (t3B w && vx_ot w)) = true := by decide +kernel
theorem cT_a (mi : aI) (h : iO mi = "FullHouse") : cT mi "java/lang/IllegalArgumentException" "java/lang/RuntimeException" ["java/lang/Exception"] 98 102 7 Bundle.six := by
  unfold cT
  rw [h]
  have h3 := List.all_eq_true.mp cT_a3
  refine ⟨⟨by decide +kernel, by decide +kernel, by decide +kernel⟩, ⟨by decide +kernel, by decide +kernel, by decide +kernel, by decide +kernel⟩, gw_464, gw_17, fun w hw => ?_, fun w hw => ?_⟩
  · obtain ⟨h1, h2⟩ := List.mem_filter.mp hw
    have h4 := h3 w h1
    rw [h2, Bool.not_true, Bool.false_or, Bool.and_eq_true] at h4
    exact t3x h4.1
  · rcases List.mem_cons.mp hw with rfl | hw
    · decide +kernel
    · rcases List.mem_cons.mp hw with rfl | hw
      · decide +kernel
      · obtain ⟨h1, h2⟩ := List.mem_filter.mp hw
        have h4 := h3 w h1
        rw [h2, Bool.not_true, Bool.false_or, Bool.and_eq_true] at h4
        exact h4.2
theorem cT_n3 : (ntAtoms "FullHouse" 131 "java/util/NoSuchElementException" "java/lang/RuntimeException" 13 prog_29_method_4_code ["java/lang/Exception"]).all (fun w => !vx_no w || (t3B w && vx_ot w)) = true := by decide +kernel
theorem cT_n (mi : aI) (h : iO mi = "FullHouse") : cT mi "java/util/NoSuchElementException" "java/lang/RuntimeException" ["java/lang/Exception"] 127 131 13 prog_29_method_4_code := by
  unfold cT
  rw [h]
  have h3 := List.all_eq_true.mp cT_n3
  refine ⟨⟨by decide +kernel, by decide +kernel, by decide +kernel⟩, ⟨by decide +kernel, by decide +kernel, by decide +kernel, by decide +kernel⟩, gw_709, gw_23, fun w hw => ?_, fun w hw => ?_⟩
  · obtain ⟨h1, h2⟩ := List.mem_filter.mp hw
    have h4 := h3 w h1
    rw [h2, Bool.not_true, Bool.false_or, Bool.and_eq_true] at h4
    exact t3x h4.1
  · rcases List.mem_cons.mp hw with rfl | hw
    · decide +kernel
    · rcases List.mem_cons.mp hw with rfl | hw
      · decide +kernel
      · obtain ⟨h1, h2⟩ := List.mem_filter.mp hw
        have h4 := h3 w h1
        rw [h2, Bool.not_true, Bool.false_or, Bool.and_eq_true] at h4
        exact h4.2
theorem tE_39_18 : tE mI_39 18 "java/lang/IllegalArgumentException" := fun l P kc ks lv sh M hP => AW.thr (cT_a _ rfl) (List.mem_of_getElem? (i := 0) rfl) (dR dI_39 rfl) (dR dI_39 rfl) (dR dI_39 rfl) (dR dI_39 rfl) (dR dI_39 rfl) (fun _ h => absurd h List.not_mem_nil) (by decide) (by decide) hP
theorem tE_86_124 : tE mI_86 124 "java/util/NoSuchElementException" := fun l P kc ks lv sh M hP => AW.thr (cT_n _ rfl) (List.mem_of_getElem? (i := 7) rfl) (dR dI_86 rfl) (dR dI_86 rfl) (dR dI_86 rfl) (dR dI_86 rfl) (dR dI_86 rfl) (fun _ h => absurd h List.not_mem_nil) (by decide) (by decide) hP
theorem tE_89_62 : tE mI_89 62 "java/util/NoSuchElementException" := fun l P kc ks lv sh M hP => AW.thr (cT_n _ rfl) (List.mem_of_getElem? (i := 9) rfl) (dR dI_89 rfl) (dR dI_89 rfl) (dR dI_89 rfl) (dR dI_89 rfl) (dR dI_89 rfl) (fun _ h => absurd h List.not_mem_nil) (by decide) (by decide) hP
theorem tE_90_11 : tE mI_90 11 "java/util/NoSuchElementException" := fun l P kc ks lv sh M hP => AW.thrW (cT_n _ rfl) (List.mem_of_getElem? (i := 8) rfl) (dR dI_90 rfl) (dR dI_90 rfl) (dR dI_90 rfl) (dR dI_90 rfl) (dR dI_90 rfl) (fun _ h => absurd h List.not_mem_nil) (by decide) (by decide) hP
theorem tE_92_62 : tE mI_92 62 "java/util/NoSuchElementException" := fun l P kc ks lv sh M hP => AW.thr (cT_n _ rfl) (List.mem_of_getElem? (i := 11) rfl) (dR dI_92 rfl) (dR dI_92 rfl) (dR dI_92 rfl) (dR dI_92 rfl) (dR dI_92 rfl) (fun _ h => absurd h List.not_mem_nil) (by decide) (by decide) hP
theorem tE_93_11 : tE mI_93 11 "java/util/NoSuchElementException" := fun l P kc ks lv sh M hP => AW.thrW (cT_n _ rfl) (List.mem_of_getElem? (i := 10) rfl) (dR dI_93 rfl) (dR dI_93 rfl) (dR dI_93 rfl) (dR dI_93 rfl) (dR dI_93 rfl) (fun _ h => absurd h List.not_mem_nil) (by decide) (by decide) hP
theorem tE_97_15 : tE mI_97 15 "java/util/NoSuchElementException" := fun l P kc ks lv sh M hP => AW.thr (cT_n _ rfl) (List.mem_of_getElem? (i := 12) rfl) (dR dI_97 rfl) (dR dI_97 rfl) (dR dI_97 rfl) (dR dI_97 rfl) (dR dI_97 rfl) (fun _ h => absurd h List.not_mem_nil) (by decide) (by decide) hP
theorem tE_97_96 : tE mI_97 96 "java/util/NoSuchElementException" := fun l P kc ks lv sh M hP => AW.thr (cT_n _ rfl) (List.mem_of_getElem? (i := 13) rfl) (dR dI_97 rfl) (dR dI_97 rfl) (dR dI_97 rfl) (dR dI_97 rfl) (dR dI_97 rfl) (fun _ h => absurd h List.not_mem_nil) (by decide) (by decide) hP
theorem tE_100_14 : tE mI_100 14 "java/lang/IllegalArgumentException" := fun l P kc ks lv sh M hP => AW.thrW (cT_a _ rfl) (List.mem_of_getElem? (i := 14) rfl) (dR dI_100 rfl) (dR dI_100 rfl) (dR dI_100 rfl) (dR dI_100 rfl) (dR dI_100 rfl) (fun _ h => absurd h List.not_mem_nil) (by decide) (by decide) hP
theorem tE_111_13 : tE mI_111 13 "java/util/NoSuchElementException" := fun l P kc ks lv sh M hP => AW.thr (cT_n _ rfl) (List.mem_of_getElem? (i := 15) rfl) (dR dI_111 rfl) (dR dI_111 rfl) (dR dI_111 rfl) (dR dI_111 rfl) (dR dI_111 rfl) (fun _ h => absurd h List.not_mem_nil) (by decide) (by decide) hP
theorem tE_124_116 : tE mI_124 116 "java/util/NoSuchElementException" := fun l P kc ks lv sh M hP => AW.thr (cT_n _ rfl) (List.mem_of_getElem? (i := 16) rfl) (dR dI_124 rfl) (dR dI_124 rfl) (dR dI_124 rfl) (dR dI_124 rfl) (dR dI_124 rfl) (fun _ h => absurd h List.not_mem_nil) (by decide) (by decide) hP
theorem tE_129_83 : tE mI_129 83 "java/util/NoSuchElementException" := fun l P kc ks lv sh M hP => AW.thr (cT_n _ rfl) (List.mem_of_getElem? (i := 17) rfl) (dR dI_129 rfl) (dR dI_129 rfl) (dR dI_129 rfl) (dR dI_129 rfl) (dR dI_129 rfl) (fun _ h => absurd h List.not_mem_nil) (by decide) (by decide) hP
theorem tE_139_14 : tE mI_139 14 "java/util/NoSuchElementException" := fun l P kc ks lv sh M hP => AW.thrW (cT_n _ rfl) (List.mem_of_getElem? (i := 18) rfl) (dR dI_139 rfl) (dR dI_139 rfl) (dR dI_139 rfl) (dR dI_139 rfl) (dR dI_139 rfl) (fun _ h => absurd h List.not_mem_nil) (by decide) (by decide) hP
theorem tE_144_14 : tE mI_144 14 "java/lang/IllegalArgumentException" := fun l P kc ks lv sh M hP => AW.thrW (cT_a _ rfl) (List.mem_of_getElem? (i := 19) rfl) (dR dI_144 rfl) (dR dI_144 rfl) (dR dI_144 rfl) (dR dI_144 rfl) (dR dI_144 rfl) (fun _ h => absurd h List.not_mem_nil) (by decide) (by decide) hP
theorem tE_150_15 : tE mI_150 15 "java/lang/IllegalArgumentException" := fun l P kc ks lv sh M hP => AW.thrW (cT_a _ rfl) (List.mem_of_getElem? (i := 20) rfl) (dR dI_150 rfl) (dR dI_150 rfl) (dR dI_150 rfl) (dR dI_150 rfl) (dR dI_150 rfl) (fun _ h => absurd h List.not_mem_nil) (by decide) (by decide) hP
theorem tE_152_16 : tE mI_152 16 "java/lang/IllegalArgumentException" := fun l P kc ks lv sh M hP => AW.thrW (cT_a _ rfl) (List.mem_of_getElem? (i := 21) rfl) (dR dI_152 rfl) (dR dI_152 rfl) (dR dI_152 rfl) (dR dI_152 rfl) (dR dI_152 rfl) (fun _ h => absurd h List.not_mem_nil) (by decide) (by decide) hP
theorem tE_154_16 : tE mI_154 16 "java/lang/IllegalArgumentException" := fun l P kc ks lv sh M hP => AW.thrW (cT_a _ rfl) (List.mem_of_getElem? (i := 22) rfl) (dR dI_154 rfl) (dR dI_154 rfl) (dR dI_154 rfl) (dR dI_154 rfl) (dR dI_154 rfl) (fun _ h => absurd h List.not_mem_nil) (by decide) (by decide) hP
theorem tE_156_10 : tE mI_156 10 "java/lang/IllegalArgumentException" := fun l P kc ks lv sh M hP => AW.thrW (cT_a _ rfl) (List.mem_of_getElem? (i := 23) rfl) (dR dI_156 rfl) (dR dI_156 rfl) (dR dI_156 rfl) (dR dI_156 rfl) (dR dI_156 rfl) (fun _ h => absurd h List.not_mem_nil) (by decide) (by decide) hP
theorem tE_164_15 : tE mI_164 15 "java/util/NoSuchElementException" := fun l P kc ks lv sh M hP => AW.thrW (cT_n _ rfl) (List.mem_of_getElem? (i := 24) rfl) (dR dI_164 rfl) (dR dI_164 rfl) (dR dI_164 rfl) (dR dI_164 rfl) (dR dI_164 rfl) (fun _ h => absurd h List.not_mem_nil) (by decide) (by decide) hP
theorem tE_164_77 : tE mI_164 77 "java/util/NoSuchElementException" := fun l P kc ks lv sh M hP => AW.thrW (cT_n _ rfl) (List.mem_of_getElem? (i := 25) rfl) (dR dI_164 rfl) (dR dI_164 rfl) (dR dI_164 rfl) (dR dI_164 rfl) (dR dI_164 rfl) (fun _ h => absurd h List.not_mem_nil) (by decide) (by decide) hP
theorem tE_169_15 : tE mI_169 15 "java/util/NoSuchElementException" := fun l P kc ks lv sh M hP => AW.thrW (cT_n _ rfl) (List.mem_of_getElem? (i := 26) rfl) (dR dI_169 rfl) (dR dI_169 rfl) (dR dI_169 rfl) (dR dI_169 rfl) (dR dI_169 rfl) (fun _ h => absurd h List.not_mem_nil) (by decide) (by decide) hP
theorem hE_38_0 : hE mI_38 4 "java/lang/IllegalArgumentException" 1 := fun l P kc ks lv sh M hP => AX.catchRet (hn := 1) (hi := 3) [] ⟨0, 9, 12, 13⟩ [] rfl (fun _ h => absurd h List.not_mem_nil) (by decide) (by decide) gw_459 (by decide) (by decide) (Or.inl ⟨3, rfl, dR dI_38 rfl, dR dI_38 rfl, dR dI_38 rfl⟩) rfl hP
theorem hE_85_0 : hE mI_85 4 "java/util/NoSuchElementException" 1 := fun l P kc ks lv sh M hP => AX.catchRet (hn := 1) (hi := 3) [] ⟨0, 9, 12, 18⟩ [] rfl (fun _ h => absurd h List.not_mem_nil) (by decide) (by decide) gw_704 (by decide) (by decide) (Or.inl ⟨3, rfl, dR dI_85 rfl, dR dI_85 rfl, dR dI_85 rfl⟩) rfl hP
theorem hE_88_0 : hE mI_88 5 "java/util/NoSuchElementException" 1 := fun l P kc ks lv sh M hP => AX.catchRet (hn := 1) (hi := 4) [] ⟨0, 10, 13, 18⟩ [] rfl (fun _ h => absurd h List.not_mem_nil) (by decide) (by decide) gw_704 (by decide) (by decide) (Or.inr ⟨dR dI_88 rfl, dR dI_88 rfl, dR dI_88 rfl⟩) rfl hP
theorem hE_91_0 : hE mI_91 5 "java/util/NoSuchElementException" 1 := fun l P kc ks lv sh M hP => AX.catchRet (hn := 1) (hi := 4) [] ⟨0, 10, 13, 18⟩ [] rfl (fun _ h => absurd h List.not_mem_nil) (by decide) (by decide) gw_704 (by decide) (by decide) (Or.inr ⟨dR dI_91 rfl, dR dI_91 rfl, dR dI_91 rfl⟩) rfl hP
theorem hE_94_0 : hE mI_94 5 "java/util/NoSuchElementException" 1 := fun l P kc ks lv sh M hP => AX.catchRet (hn := 1) (hi := 4) [] ⟨0, 10, 13, 18⟩ [] rfl (fun _ h => absurd h List.not_mem_nil) (by decide) (by decide) gw_704 (by decide) (by decide) (Or.inr ⟨dR dI_94 rfl, dR dI_94 rfl, dR dI_94 rfl⟩) rfl hP
theorem hE_96_0 : hE mI_96 5 "java/util/NoSuchElementException" 1 := fun l P kc ks lv sh M hP => AX.catchRet (hn := 1) (hi := 4) [] ⟨0, 10, 13, 18⟩ [] rfl (fun _ h => absurd h List.not_mem_nil) (by decide) (by decide) gw_704 (by decide) (by decide) (Or.inr ⟨dR dI_96 rfl, dR dI_96 rfl, dR dI_96 rfl⟩) rfl hP
theorem hE_98_0 : hE mI_98 4 "java/lang/IllegalArgumentException" 1 := fun l P kc ks lv sh M hP => AX.catchRet (hn := 1) (hi := 3) [] ⟨0, 9, 12, 13⟩ [] rfl (fun _ h => absurd h List.not_mem_nil) (by decide) (by decide) gw_459 (by decide) (by decide) (Or.inl ⟨3, rfl, dR dI_98 rfl, dR dI_98 rfl, dR dI_98 rfl⟩) rfl hP
theorem hE_110_0 : hE mI_110 4 "java/util/NoSuchElementException" 1 := fun l P kc ks lv sh M hP => AX.catchRet (hn := 1) (hi := 3) [] ⟨0, 9, 12, 18⟩ [] rfl (fun _ h => absurd h List.not_mem_nil) (by decide) (by decide) gw_704 (by decide) (by decide) (Or.inl ⟨3, rfl, dR dI_110 rfl, dR dI_110 rfl, dR dI_110 rfl⟩) rfl hP
theorem hE_113_0 : hE mI_113 4 "java/lang/IllegalArgumentException" 1 := fun l P kc ks lv sh M hP => AX.catchRet (hn := 1) (hi := 3) [] ⟨0, 9, 12, 13⟩ [] rfl (fun _ h => absurd h List.not_mem_nil) (by decide) (by decide) gw_459 (by decide) (by decide) (Or.inl ⟨3, rfl, dR dI_113 rfl, dR dI_113 rfl, dR dI_113 rfl⟩) rfl hP
theorem hE_116_0 : hE mI_116 4 "java/lang/IllegalArgumentException" 1 := fun l P kc ks lv sh M hP => AX.catchRet (hn := 1) (hi := 3) [] ⟨0, 9, 12, 13⟩ [] rfl (fun _ h => absurd h List.not_mem_nil) (by decide) (by decide) gw_459 (by decide) (by decide) (Or.inl ⟨3, rfl, dR dI_116 rfl, dR dI_116 rfl, dR dI_116 rfl⟩) rfl hP
theorem hE_120_0 : hE mI_120 4 "java/lang/IllegalArgumentException" 1 := fun l P kc ks lv sh M hP => AX.catchRet (hn := 1) (hi := 3) [] ⟨0, 9, 12, 13⟩ [] rfl (fun _ h => absurd h List.not_mem_nil) (by decide) (by decide) gw_459 (by decide) (by decide) (Or.inl ⟨3, rfl, dR dI_120 rfl, dR dI_120 rfl, dR dI_120 rfl⟩) rfl hP
theorem hE_123_0 : hE mI_123 4 "java/util/NoSuchElementException" 1 := fun l P kc ks lv sh M hP => AX.catchRet (hn := 1) (hi := 3) [] ⟨0, 9, 12, 18⟩ [] rfl (fun _ h => absurd h List.not_mem_nil) (by decide) (by decide) gw_704 (by decide) (by decide) (Or.inl ⟨3, rfl, dR dI_123 rfl, dR dI_123 rfl, dR dI_123 rfl⟩) rfl hP
theorem hE_128_0 : hE mI_128 5 "java/util/NoSuchElementException" 1 := fun l P kc ks lv sh M hP => AX.catchRet (hn := 1) (hi := 4) [] ⟨0, 10, 13, 18⟩ [] rfl (fun _ h => absurd h List.not_mem_nil) (by decide) (by decide) gw_704 (by decide) (by decide) (Or.inr ⟨dR dI_128 rfl, dR dI_128 rfl, dR dI_128 rfl⟩) rfl hP
theorem hE_138_0 : hE mI_138 5 "java/util/NoSuchElementException" 1 := fun l P kc ks lv sh M hP => AX.catchRet (hn := 1) (hi := 4) [] ⟨0, 10, 13, 18⟩ [] rfl (fun _ h => absurd h List.not_mem_nil) (by decide) (by decide) gw_704 (by decide) (by decide) (Or.inr ⟨dR dI_138 rfl, dR dI_138 rfl, dR dI_138 rfl⟩) rfl hP
theorem hE_143_0 : hE mI_143 4 "java/lang/IllegalArgumentException" 1 := fun l P kc ks lv sh M hP => AX.catchRet (hn := 1) (hi := 3) [] ⟨0, 9, 12, 13⟩ [] rfl (fun _ h => absurd h List.not_mem_nil) (by decide) (by decide) gw_459 (by decide) (by decide) (Or.inl ⟨3, rfl, dR dI_143 rfl, dR dI_143 rfl, dR dI_143 rfl⟩) rfl hP
theorem hE_149_0 : hE mI_149 4 "java/lang/IllegalArgumentException" 1 := fun l P kc ks lv sh M hP => AX.catchRet (hn := 1) (hi := 3) [] ⟨0, 9, 12, 13⟩ [] rfl (fun _ h => absurd h List.not_mem_nil) (by decide) (by decide) gw_459 (by decide) (by decide) (Or.inl ⟨3, rfl, dR dI_149 rfl, dR dI_149 rfl, dR dI_149 rfl⟩) rfl hP
theorem hE_151_0 : hE mI_151 5 "java/util/NoSuchElementException" 1 := fun l P kc ks lv sh M hP => AX.catchRet (hn := 1) (hi := 4) [] ⟨0, 10, 13, 18⟩ [⟨0, 10, 17, 13⟩] rfl (fun _ h => absurd h List.not_mem_nil) (by decide) (by decide) gw_704 (by decide) (by decide) (Or.inr ⟨dR dI_151 rfl, dR dI_151 rfl, dR dI_151 rfl⟩) rfl hP
theorem hE_151_1 : hE mI_151 5 "java/lang/IllegalArgumentException" 2 := fun l P kc ks lv sh M hP => AX.catchRet (hn := 2) (hi := 4) [⟨0, 10, 13, 18⟩] ⟨0, 10, 17, 13⟩ [] rfl (List.forall_mem_cons.mpr ⟨Or.inr ⟨by decide, _, gw_704, rfl, rfl⟩, fun _ h => absurd h List.not_mem_nil⟩) (by decide) (by decide) gw_459 (by decide) (by decide) (Or.inr ⟨dR dI_151 rfl, dR dI_151 rfl, dR dI_151 rfl⟩) rfl hP
theorem hE_153_0 : hE mI_153 5 "java/util/NoSuchElementException" 1 := fun l P kc ks lv sh M hP => AX.catchRet (hn := 1) (hi := 4) [] ⟨0, 10, 13, 18⟩ [⟨0, 10, 17, 13⟩] rfl (fun _ h => absurd h List.not_mem_nil) (by decide) (by decide) gw_704 (by decide) (by decide) (Or.inr ⟨dR dI_153 rfl, dR dI_153 rfl, dR dI_153 rfl⟩) rfl hP
theorem hE_153_1 : hE mI_153 5 "java/lang/IllegalArgumentException" 2 := fun l P kc ks lv sh M hP => AX.catchRet (hn := 2) (hi := 4) [⟨0, 10, 13, 18⟩] ⟨0, 10, 17, 13⟩ [] rfl (List.forall_mem_cons.mpr ⟨Or.inr ⟨by decide, _, gw_704, rfl, rfl⟩, fun _ h => absurd h List.not_mem_nil⟩) (by decide) (by decide) gw_459 (by decide) (by decide) (Or.inr ⟨dR dI_153 rfl, dR dI_153 rfl, dR dI_153 rfl⟩) rfl hP
theorem hE_155_0 : hE mI_155 4 "java/lang/IllegalArgumentException" 1 := fun l P kc ks lv sh M hP => AX.catchRet (hn := 1) (hi := 3) [] ⟨0, 9, 12, 13⟩ [] rfl (fun _ h => absurd h List.not_mem_nil) (by decide) (by decide) gw_459 (by decide) (by decide) (Or.inl ⟨3, rfl, dR dI_155 rfl, dR dI_155 rfl, dR dI_155 rfl⟩) rfl hP
theorem hE_163_0 : hE mI_163 5 "java/util/NoSuchElementException" 1 := fun l P kc ks lv sh M hP => AX.catchRet (hn := 1) (hi := 4) [] ⟨0, 10, 13, 18⟩ [] rfl (fun _ h => absurd h List.not_mem_nil) (by decide) (by decide) gw_704 (by decide) (by decide) (Or.inr ⟨dR dI_163 rfl, dR dI_163 rfl, dR dI_163 rfl⟩) rfl hP
theorem hE_168_0 : hE mI_168 4 "java/util/NoSuchElementException" 1 := fun l P kc ks lv sh M hP => AX.catchRet (hn := 1) (hi := 3) [] ⟨0, 9, 12, 18⟩ [] rfl (fun _ h => absurd h List.not_mem_nil) (by decide) (by decide) gw_704 (by decide) (by decide) (Or.inl ⟨3, rfl, dR dI_168 rfl, dR dI_168 rfl, dR dI_168 rfl⟩) rfl hP
theorem xE_ok : ∀ t ∈ xE, ∀ x ∈ t.2, tE (pI pg t.1) x.1 x.2 := List.forall_mem_cons.mpr ⟨List.forall_mem_cons.mpr ⟨tE_39_18, fun _ h => absurd h List.not_mem_nil⟩, List.forall_mem_cons.mpr ⟨List.forall_mem_cons.mpr ⟨tE_86_124, fun _ h => absurd h List.not_mem_nil⟩, List.forall_mem_cons.mpr ⟨List.forall_mem_cons.mpr ⟨tE_89_62, fun _ h => absurd h List.not_mem_nil⟩, List.forall_mem_cons.mpr ⟨List.forall_mem_cons.mpr ⟨tE_90_11, fun _ h => absurd h List.not_mem_nil⟩, List.forall_mem_cons.mpr ⟨List.forall_mem_cons.mpr ⟨tE_92_62, fun _ h => absurd h List.not_mem_nil⟩, List.forall_mem_cons.mpr ⟨List.forall_mem_cons.mpr ⟨tE_93_11, fun _ h => absurd h List.not_mem_nil⟩, List.forall_mem_cons.mpr ⟨List.forall_mem_cons.mpr ⟨tE_97_15, List.forall_mem_cons.mpr ⟨tE_97_96, fun _ h => absurd h List.not_mem_nil⟩⟩, List.forall_mem_cons.mpr ⟨List.forall_mem_cons.mpr ⟨tE_100_14, fun _ h => absurd h List.not_mem_nil⟩, List.forall_mem_cons.mpr ⟨List.forall_mem_cons.mpr ⟨tE_111_13, fun _ h => absurd h List.not_mem_nil⟩, List.forall_mem_cons.mpr ⟨List.forall_mem_cons.mpr ⟨tE_124_116, fun _ h => absurd h List.not_mem_nil⟩, List.forall_mem_cons.mpr ⟨List.forall_mem_cons.mpr ⟨tE_129_83, fun _ h => absurd h List.not_mem_nil⟩, List.forall_mem_cons.mpr ⟨List.forall_mem_cons.mpr ⟨tE_139_14, fun _ h => absurd h List.not_mem_nil⟩, List.forall_mem_cons.mpr ⟨List.forall_mem_cons.mpr ⟨tE_144_14, fun _ h => absurd h List.not_mem_nil⟩, List.forall_mem_cons.mpr ⟨List.forall_mem_cons.mpr ⟨tE_150_15, fun _ h => absurd h List.not_mem_nil⟩, List.forall_mem_cons.mpr ⟨List.forall_mem_cons.mpr ⟨tE_152_16, fun _ h => absurd h List.not_mem_nil⟩, List.forall_mem_cons.mpr ⟨List.forall_mem_cons.mpr ⟨tE_154_16, fun _ h => absurd h List.not_mem_nil⟩, List.forall_mem_cons.mpr ⟨List.forall_mem_cons.mpr ⟨tE_156_10, fun _ h => absurd h List.not_mem_nil⟩, List.forall_mem_cons.mpr ⟨List.forall_mem_cons.mpr ⟨tE_164_15, List.forall_mem_cons.mpr ⟨tE_164_77, fun _ h => absurd h List.not_mem_nil⟩⟩, List.forall_mem_cons.mpr ⟨List.forall_mem_cons.mpr ⟨tE_169_15, fun _ h => absurd h List.not_mem_nil⟩, fun _ h => absurd h List.not_mem_nil⟩⟩⟩⟩⟩⟩⟩⟩⟩⟩⟩⟩⟩⟩⟩⟩⟩⟩⟩
theorem hL_ok : ∀ t ∈ hL, ∀ x ∈ t.2.2, hE (pI pg t.1) t.2.1 x.1 x.2 := List.forall_mem_cons.mpr ⟨List.forall_mem_cons.mpr ⟨hE_38_0, fun _ h => absurd h List.not_mem_nil⟩, List.forall_mem_cons.mpr ⟨List.forall_mem_cons.mpr ⟨hE_85_0, fun _ h => absurd h List.not_mem_nil⟩, List.forall_mem_cons.mpr ⟨List.forall_mem_cons.mpr ⟨hE_88_0, fun _ h => absurd h List.not_mem_nil⟩, List.forall_mem_cons.mpr ⟨List.forall_mem_cons.mpr ⟨hE_91_0, fun _ h => absurd h List.not_mem_nil⟩, List.forall_mem_cons.mpr ⟨List.forall_mem_cons.mpr ⟨hE_94_0, fun _ h => absurd h List.not_mem_nil⟩, List.forall_mem_cons.mpr ⟨List.forall_mem_cons.mpr ⟨hE_96_0, fun _ h => absurd h List.not_mem_nil⟩, List.forall_mem_cons.mpr ⟨List.forall_mem_cons.mpr ⟨hE_98_0, fun _ h => absurd h List.not_mem_nil⟩, List.forall_mem_cons.mpr ⟨List.forall_mem_cons.mpr ⟨hE_110_0, fun _ h => absurd h List.not_mem_nil⟩, List.forall_mem_cons.mpr ⟨List.forall_mem_cons.mpr ⟨hE_113_0, fun _ h => absurd h List.not_mem_nil⟩, List.forall_mem_cons.mpr ⟨List.forall_mem_cons.mpr ⟨hE_116_0, fun _ h => absurd h List.not_mem_nil⟩, List.forall_mem_cons.mpr ⟨List.forall_mem_cons.mpr ⟨hE_120_0, fun _ h => absurd h List.not_mem_nil⟩, List.forall_mem_cons.mpr ⟨List.forall_mem_cons.mpr ⟨hE_123_0, fun _ h => absurd h List.not_mem_nil⟩, List.forall_mem_cons.mpr ⟨List.forall_mem_cons.mpr ⟨hE_128_0, fun _ h => absurd h List.not_mem_nil⟩, List.forall_mem_cons.mpr ⟨List.forall_mem_cons.mpr ⟨hE_138_0, fun _ h => absurd h List.not_mem_nil⟩, List.forall_mem_cons.mpr ⟨List.forall_mem_cons.mpr ⟨hE_143_0, fun _ h => absurd h List.not_mem_nil⟩, List.forall_mem_cons.mpr ⟨List.forall_mem_cons.mpr ⟨hE_149_0, fun _ h => absurd h List.not_mem_nil⟩, List.forall_mem_cons.mpr ⟨List.forall_mem_cons.mpr ⟨hE_151_0, List.forall_mem_cons.mpr ⟨hE_151_1, fun _ h => absurd h List.not_mem_nil⟩⟩, List.forall_mem_cons.mpr ⟨List.forall_mem_cons.mpr ⟨hE_153_0, List.forall_mem_cons.mpr ⟨hE_153_1, fun _ h => absurd h List.not_mem_nil⟩⟩, List.forall_mem_cons.mpr ⟨List.forall_mem_cons.mpr ⟨hE_155_0, fun _ h => absurd h List.not_mem_nil⟩, List.forall_mem_cons.mpr ⟨List.forall_mem_cons.mpr ⟨hE_163_0, fun _ h => absurd h List.not_mem_nil⟩, List.forall_mem_cons.mpr ⟨List.forall_mem_cons.mpr ⟨hE_168_0, fun _ h => absurd h List.not_mem_nil⟩, fun _ h => absurd h List.not_mem_nil⟩⟩⟩⟩⟩⟩⟩⟩⟩⟩⟩⟩⟩⟩⟩⟩⟩⟩⟩⟩⟩
theorem pg_8 (id pc : Nat) (X : String) (h : lk2 xE id pc = some X) : tE (pI pg id) pc X := by
  obtain ⟨l, h1, h2⟩ := lk2_mem h
  have h9 := xE_ok _ h1
  have h10 := h9 _ h2
  exact h10
theorem pg_9 (id pc : Nat) (X : String) (k : Int) (h : hLk id pc X = some k) : hE (pI pg id) pc X k := by
  obtain ⟨x, h1, h2, h3⟩ := hLk_mem h
  subst h2
  have h9 := hL_ok _ h1
  have h10 := h9 _ h3
  exact h10
theorem pg_ok : pgOk pg := ⟨pg_1, pg_2, pg_3, pg_4, pg_5, pg_6, fun id h => (eL_ok id).2.2 h, pg_8, pg_9⟩
