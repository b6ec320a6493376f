theorem s247_23z {l : aL} {P : aP} {kc ks : Nat} {i L : Nat} {xs : Nat → Int32} {M : aM}  (hG : ∀ G, l.2 G → scOk (some L, fun _ => none, [], []) xs G) (r2 : ∀ (h1 : ((Int32.ofNat L) - ((Int8.ofInt 6).toInt32) : Int32) < (nI i : Int32)), P (.inl (some (.int (Int32.ofInt 1)))) SHF M) (o3 : ∀ (h1 : ¬ (((Int32.ofNat L) - ((Int8.ofInt 6).toInt32) : Int32) < (nI i : Int32))), vp_in (nI i) L) (k4 : ∀ (h1 : ¬ (((Int32.ofNat L) - ((Int8.ofInt 6).toInt32) : Int32) < (nI i : Int32))), AW l (pI pg 247) P 0 0 40 [(4, .int (nI i)), (0, .retAddr 0), (1, .ref 0), (2, .ref 58), (3, .ref 93)] [.int ((xs (nI i).toNatClampNeg) &&& ((Int8.ofInt 31).toInt32))] SHF M) : AW l (pI pg 247) P 0 0 23 [(4, .int (nI i)), (0, .retAddr 0), (1, .ref 0), (2, .ref 58), (3, .ref 93)] [] SHF M := by
  refine AW.iload (dq rfl) rfl ?_
  show AW l (pI pg 247) P 0 0 25 _ _ SHF _
  refine AW.aload_n (dq rfl) rfl rfl ?_
  show AW l (pI pg 247) P 0 0 26 _ _ SHF _
  refine AW.slen hG (dq rfl) rfl ?_
  show AW l (pI pg 247) P 0 0 27 _ _ SHF _
  refine AW.bipush (dq rfl) ?_
  show AW l (pI pg 247) P 0 0 29 _ _ SHF _
  refine AW.isub (dq rfl) ?_
  show AW l (pI pg 247) P 0 0 30 _ _ SHF _
  refine AW.icmp_gt (dq rfl) (tgt := 1071) (by decide) (fun h1 => ?_) (fun h1 => ?_)
  · have _ := h1
    refine AW.iconst (dq rfl) ?_
    show AW l (pI pg 247) P 0 0 1072 _ _ SHF _
    refine AW.zret (dq rfl) rfl (by decide) ?_
    exact r2 h1
  · have _ := h1
    refine AW.aload_n (dq rfl) rfl rfl ?_
    show AW l (pI pg 247) P 0 0 34 _ _ SHF _
    refine AW.iload (dq rfl) rfl ?_
    show AW l (pI pg 247) P 0 0 36 _ _ SHF _
    refine AW.sld hG (dq rfl) rfl (o3 h1) ?_
    show AW l (pI pg 247) P 0 0 37 _ _ SHF _
    refine AW.bipush (dq rfl) ?_
    show AW l (pI pg 247) P 0 0 39 _ _ SHF _
    refine AW.iand (dq rfl) ?_
    show AW l (pI pg 247) P 0 0 40 _ _ SHF _
    refine AW.drop (lv' := [(4, .int (nI i)), (0, .retAddr 0), (1, .ref 0), (2, .ref 58), (3, .ref 93)]) (List.forall_mem_cons.mpr ⟨List.mem_of_getElem? (i := 0) rfl, List.forall_mem_cons.mpr ⟨List.mem_of_getElem? (i := 1) rfl, List.forall_mem_cons.mpr ⟨List.mem_of_getElem? (i := 2) rfl, List.forall_mem_cons.mpr ⟨List.mem_of_getElem? (i := 3) rfl, List.forall_mem_cons.mpr ⟨List.mem_of_getElem? (i := 4) rfl, fun _ h => absurd h List.not_mem_nil⟩⟩⟩⟩⟩) ?_
    exact k4 h1
/-! the law's loop -/
theorem AW.shf {l : aL} {mi : aI} {P : aP} {kc ks pc : Nat} {lv : List (Nat × Value)} {st : List Value} {s : List aS} {M : aM} (k : AW l mi P kc ks pc lv st (false, s) M) : AW l mi P kc ks pc lv st (true, s) M := by
  intro p e s1 m args below meth c G H locs cells slots ls KC KS C E w hS hl hc hs
  exact k p e s1 m args below meth c G H locs cells slots ls KC KS C E ⟨⟨w.1.1, fun h => by cases h⟩, w.2⟩ hS hl hc hs
theorem fcgI {l : aL} {id : Nat} {M : aM} {Q : Int32 → aM → Prop} {Q' : Int32 → aM → Prop} {kc ks : Nat} {av : List Value} (hl0 : l.1.stackTraces = false) (h : AC l (pI pg id) (fcI M Q) kc ks av SHF M) (hq : ∀ y M', M'.2.2 = M.2.2 → Q y M' → Q' y M') : AC l (pI pg id) (gcI Q') kc ks av SHF M := h.post hl0 (fun r sh' M' hp => by
  obtain ⟨p1, p2, y, p3, p4⟩ := hp
  exact ⟨p1, y, p3, hq y M' p2 p4⟩)
theorem JX_size {M : aM} (h : JX M) : inI (M.1 2 1) (0, 800) := h.elim (fun h => rgF_ok h.1 (show rgF RR.1 2 1 = some (0, 800) by decide +kernel)) (fun h => rgF_ok h.1 (show rgF RRS.1 2 1 = some (0, 800) by decide +kernel))
theorem JX_RC {M : aM} (h : JX M) : ∀ e ∈ RC, M.2.2 e.1 e.2.1 = e.2.2 := fun e he => h.elim (fun h => rgR_ok h.2 ((show ∀ e ∈ RC, rgR RR.2 e.1 e.2.1 = some e.2.2 by decide +kernel) e he)) (fun h => rgR_ok h.2 ((show ∀ e ∈ RC, rgR RRS.2 e.1 e.2.1 = some e.2.2 by decide +kernel) e he))
theorem JX_RM {M : aM} (h : JX M) : ∀ e ∈ RM, M.2.2 e.1 e.2.1 = e.2.2 := fun e he => h.elim (fun h => rgR_ok h.2 (okR_RR.1 e he)) (fun h => rgR_ok h.2 (okR_RRS.1 e he))
theorem JX_of {M M' : aM} {W : sW} (h : JX M) (h22 : M'.2.2 = M.2.2) (hfr : ∀ a k, wrW W a k = false → M'.1 a k = M.1 a k) (hA : ∀ a ∈ W.1, ∃ q, wcA RR.1 a q = true ∧ ∀ k, inI (M'.1 a k) q) (hF : ∀ f ∈ W.2, ∃ q, wcF RR.1 f.1 f.2 q = true ∧ inI (M'.1 f.1 f.2) q) : JX M' := by
  rcases h with h | h
  · have := Jm_of h h22 hfr hA hF
    exact Or.inl ⟨this.1, this.2.1⟩
  · have := Jm_of (R := RRS) h h22 hfr hA hF
    exact Or.inr ⟨this.1, this.2.1⟩
theorem tbI_in (v : Int32) (i : Nat) : inI (tbI v i) (0, 255) := by
  obtain ⟨j, hj, e⟩ := pk_andE (v >>> (shI i &&& 31)) (m := (Int16.ofInt 255).toInt32) 8 (by decide)
  unfold tbI
  rw [e]
  show (0 : Int) ≤ (nI j).toInt ∧ (nI j).toInt ≤ 255
  rw [nI_toInt (by omega)]
  omega
section LOOP
variable {l : aL} {P : aP} {kc ks i L : Nat} {xs : Nat → Int32} {M : aM}
theorem law_c0 (hl0 : l.1.stackTraces = false) (hG : ∀ G, l.2 G → scOk (some L, fun _ => none, [], []) xs G) (hM : LI M) (o1 : vp_in (nI i + Int32.ofInt 1) L) (o2 : vp_in (nI i + Int32.ofInt 2) L) (o3 : vp_in (nI i + Int32.ofInt 3) L) (o4 : vp_in (nI i + Int32.ofInt 4) L) (o5 : vp_in (nI i + Int32.ofInt 5) L)
    (next : ∀ M', LI M' → AW l (pI pg 247) P kc ks 1065 [(4, .int (nI i)), (0, .retAddr 0), (1, .ref 0), (2, .ref 58), (3, .ref 93)] [] SHF M') : AW l (pI pg 247) P (kc + 2) (ks + 12) 168 [(4, .int (nI i)), (0, .retAddr 0), (1, .ref 0), (2, .ref 58), (3, .ref 93)] [] SHF M := by
  have hsz := JX_size hM.1
  have hs := nI_self hsz.1
  have hs8 := hsz.2
  have hs0 := hsz.1
  simp only at hs8 hs0
  generalize hsn : (M.1 2 1).toInt.toNat = s at hs
  have hs9 : s ≤ 800 := by omega
  have hRC := JX_RC hM.1
  have h58 : M.1 58 12 = nI s := by rw [← hM.2]; exact hs
  generalize hf : fdV (xs (nI i + Int32.ofInt 1).toNatClampNeg) (xs (nI i + Int32.ofInt 2).toNatClampNeg) (xs (nI i + Int32.ofInt 3).toNatClampNeg) (xs (nI i + Int32.ofInt 4).toNatClampNeg) (xs (nI i + Int32.ofInt 5).toNatClampNeg) = f
  have one : ∀ (y : Int32) (M6 : aM), M6.2.2 = M.2.2 → Q24 s f M y M6 → JX M6 ∧ M6.1 58 12 = nI s ∧ ((s ≤ 780 ∧ y = nI (s + 20) ∧ M6.1 2 1 = nI (s + 20)) ∨ (780 < s ∧ y = Int32.ofInt (-1) ∧ M6.1 2 1 = nI s)) := by
    intro y M6 e6 q6
    rcases q6 with ⟨q1, q2, q3, q4, q5, q7⟩ | ⟨q1, q2, rfl⟩
    · refine ⟨JX_of (W := ([3], [(2, 1)])) hM.1 e6 (fun a k hw => q7 a k ((wr_no hw).1 3 (by decide)) (fun e => (wr_no hw).2 (2, 1) (by decide) e)) (fun a ha => ?_) (fun g hg => ?_), by rw [q7 58 12 (by decide) (by decide)]; exact h58, Or.inl ⟨q1, q2, q3⟩⟩
      · have ha : a = 3 := by simpa using ha
        subst ha
        refine ⟨((-128), 127), by decide +kernel, fun k => ?_⟩
        by_cases e : k < s ∨ s + 20 ≤ k
        · rw [q5 k e]
          exact hM.1.elim (fun h => rgA_ok h.1 (show rgA RR.1 3 = some ((-128), 127) by decide +kernel) k) (fun h => rgA_ok h.1 (show rgA RRS.1 3 = some ((-128), 127) by decide +kernel) k)
        · have e2 := q4 (k - s) (by omega)
          rw [show s + (k - s) = k by omega] at e2
          rw [e2]
          exact nar_b _
      · have hg : g = (2, 1) := by simpa using hg
        subst hg
        refine ⟨(0, 800), by decide +kernel, ?_⟩
        show (0 : Int) ≤ (M6.1 2 1).toInt ∧ (M6.1 2 1).toInt ≤ 800
        rw [q3, nI_toInt (by omega)]
        omega
    · exact ⟨hM.1, h58, Or.inr ⟨q1, q2, hs⟩⟩
  have two : ∀ (M6 : aM), JX M6 → M6.1 58 12 = nI s → ∀ (y : Int32) (M8 : aM), M8.2.2 = M6.2.2 → Q171 s f M6 y M8 → JX M8 ∧ (M8.1 2 1 = M6.1 2 1) ∧ ((s ≤ 780 ∧ y = nI (s + 20) ∧ M8.1 58 12 = nI (s + 20)) ∨ (780 < s ∧ y = Int32.ofInt (-1) ∧ M8.1 58 12 = nI s)) := by
    intro M6 j6 h6 y M8 e8 q8
    obtain ⟨q1, q2, q3⟩ := q8
    have r65 : ∀ k, inI (M6.1 65 k) (0, 255) := fun k => j6.elim (fun h => rgA_ok h.1 (show rgA RR.1 65 = some (0, 255) by decide +kernel) k) (fun h => rgA_ok h.1 (show rgA RRS.1 65 = some (0, 255) by decide +kernel) k)
    refine ⟨JX_of (W := ([65], [(58, 12), (58, 0)])) j6 e8 (fun a k hw => q1 a k ((wr_no hw).1 65 (by decide)) (fun e => ⟨(wr_no hw).2 (58, 12) (by decide) e, (wr_no hw).2 (58, 0) (by decide) e⟩)) (fun a ha => ?_) (fun g hg => ?_), q1 2 1 (by decide) (by decide), ?_⟩
    · have ha : a = 65 := by simpa using ha
      subst ha
      refine ⟨(0, 255), by decide +kernel, fun k => ?_⟩
      rcases q3 with ⟨-, -, -, q4, q5⟩ | ⟨-, -, -, q5⟩
      · by_cases e : k < s ∨ s + 20 ≤ k
        · rw [q5 k e]
          exact r65 k
        · have e2 := q4 (k - s) (by omega)
          rw [show s + (k - s) = k by omega] at e2
          rw [e2]
          exact tbI_in _ _
      · rw [q5 k]
        exact r65 k
    · have hg : g = (58, 12) ∨ g = (58, 0) := by simpa using hg
      rcases hg with rfl | rfl
      · refine ⟨(0, 800), by decide +kernel, ?_⟩
        show (0 : Int) ≤ (M8.1 58 12).toInt ∧ (M8.1 58 12).toInt ≤ 800
        rcases q3 with ⟨q4, -, q5, -⟩ | ⟨q4, -, q5, -⟩
        · rw [q5, nI_toInt (by omega)]
          omega
        · rw [q5, nI_toInt (by omega)]
          omega
      · refine ⟨(0, 2), by decide +kernel, ?_⟩
        show (0 : Int) ≤ (M8.1 58 0).toInt ∧ (M8.1 58 0).toInt ≤ 2
        rw [q2]
        decide
    · rcases q3 with ⟨q4, q5, q6, -⟩ | ⟨q4, q5, q6, -⟩
      · exact Or.inl ⟨q4, q5, q6⟩
      · exact Or.inr ⟨q4, q5, q6⟩
  refine s247_c0 hG o1 o2 o3 o4 o5 (fun y M' => JX M' ∧ M'.1 58 12 = nI s ∧ ((s ≤ 780 ∧ y = nI (s + 20) ∧ M'.1 2 1 = nI (s + 20)) ∨ (780 < s ∧ y = Int32.ofInt (-1) ∧ M'.1 2 1 = nI s))) (fcgI hl0 (c24 hl0 hRC hs9 hs) (fun y M' e6 q6 => one y M' e6 (by rw [← hf]; exact q6))) (fun _ M6 y M8 => JX M8 ∧ (M8.1 2 1 = M6.1 2 1) ∧ ((s ≤ 780 ∧ y = nI (s + 20) ∧ M8.1 58 12 = nI (s + 20)) ∨ (780 < s ∧ y = Int32.ofInt (-1) ∧ M8.1 58 12 = nI s))) (fun y M6 q6 => fcgI hl0 (c171 hl0 (JX_RM q6.1) hs9 q6.2.1) (fun y M' e8 q8 => two M6 q6.1 q6.2.1 y M' e8 (by rw [← hf]; exact q8))) (fun y6 M6 q6 y8 M8 q8 _ => next M8 ⟨q8.1, ?_⟩) (fun y6 M6 q6 y8 M8 q8 h => ?_)
  · rw [q8.2.1]
    rcases q6.2.2 with ⟨a1, -, a2⟩ | ⟨a1, -, a2⟩ <;> rcases q8.2.2 with ⟨b1, -, b2⟩ | ⟨b1, -, b2⟩
    · rw [a2, b2]
    · omega
    · omega
    · rw [a2, b2]
  · exfalso
    refine h ?_
    rcases q6.2.2 with ⟨a1, a2, -⟩ | ⟨a1, a2, -⟩ <;> rcases q8.2.2 with ⟨b1, b2, -⟩ | ⟨b1, b2, -⟩
    · rw [a2, b2]
    · omega
    · omega
    · rw [a2, b2]
theorem law_c1 (hl0 : l.1.stackTraces = false) (hG : ∀ G, l.2 G → scOk (some L, fun _ => none, [], []) xs G) (hM : LI M) (o1 : vp_in (nI i + Int32.ofInt 1) L)
    (next : ∀ M', LI M' → AW l (pI pg 247) P kc ks 1065 [(4, .int (nI i)), (0, .retAddr 0), (1, .ref 0), (2, .ref 58), (3, .ref 93)] [] SHF M') : AW l (pI pg 247) P (kc + 2) (ks + 12) 241 [(4, .int (nI i)), (0, .retAddr 0), (1, .ref 0), (2, .ref 58), (3, .ref 93)] [] SHF M := by
  generalize hx : xs (nI i + Int32.ofInt 1).toNatClampNeg = x
  refine s247_c1 hG o1 (fun _ M' => JX M' ∧ M'.1 58 12 = M.1 58 12 ∧ ((¬ x < 0 ∧ x ≤ M.1 2 1 ∧ M'.1 2 1 = 0) ∨ ((x < 0 ∨ ¬ x ≤ M.1 2 1) ∧ M'.1 2 1 = M.1 2 1))) (by rw [hx]; exact help_house hl0 hM.1) (fun _ M2 _ M' => JX M' ∧ (∀ k, M'.1 2 k = M2.1 2 k) ∧ ((¬ x < 0 ∧ ¬ M2.1 58 12 < x ∧ M'.1 58 12 = 0) ∨ ((x < 0 ∨ M2.1 58 12 < x) ∧ M'.1 58 12 = M2.1 58 12))) (fun y M2 q2 => by rw [hx]; exact fcgI hl0 (houseR hl0 q2.1) (fun y M' e q => q)) (fun y M2 q2 y4 M4 q4 => next M4 ⟨q4.1, ?_⟩)
  obtain ⟨-, a1, a2⟩ := q2
  obtain ⟨-, b1, b2⟩ := q4
  rw [b1 1]
  have hsame := hM.2
  rw [Int32.le_iff_toInt_le, Int32.lt_iff_toInt_lt] at a2
  rw [Int32.lt_iff_toInt_lt, Int32.lt_iff_toInt_lt, a1, ← hsame] at b2
  rcases a2 with ⟨c1, c2, c3⟩ | ⟨c1, c3⟩ <;> rcases b2 with ⟨d1, d2, d3⟩ | ⟨d1, d3⟩
  · rw [c3, d3]
  · omega
  · omega
  · rw [c3, d3]
theorem law_sw (hl0 : l.1.stackTraces = false) (hG : ∀ G, l.2 G → scOk (some L, fun _ => none, [], []) xs G) (hM : LI M) (o1 : vp_in (nI i + Int32.ofInt 1) L) (o2 : vp_in (nI i + Int32.ofInt 2) L) (o3 : vp_in (nI i + Int32.ofInt 3) L) (o4 : vp_in (nI i + Int32.ofInt 4) L) (o5 : vp_in (nI i + Int32.ofInt 5) L)
    (next : ∀ M', LI M' → AW l (pI pg 247) P kc ks 1065 [(4, .int (nI i)), (0, .retAddr 0), (1, .ref 0), (2, .ref 58), (3, .ref 93)] [] SHF M') : ∀ j, j < 2 ^ 5 → AW l (pI pg 247) P (kc + 2) (ks + 12) 40 [(4, .int (nI i)), (0, .retAddr 0), (1, .ref 0), (2, .ref 58), (3, .ref 93)] [.int (nI j)] SHF M
  | 0, _ => AW.tableIn (off := 128) (tgt := 168) (dq rfl) (by decide) (by decide) (by decide) (by decide) (law_c0 hl0 hG hM o1 o2 o3 o4 o5 next)
  | 1, _ => AW.tableIn (off := 201) (tgt := 241) (dq rfl) (by decide) (by decide) (by decide) (by decide) (law_c1 hl0 hG hM o1 next)
  | 2, _ => AW.tableIn (off := 229) (tgt := 269) (dq rfl) (by decide) (by decide) (by decide) (by decide) (s247_c2 hG (fun _ M' => LI M') (lm_26 hl0 hM) (fun _ _ _ M' => LI M') (fun y1 M1 q1 => lm_192 hl0 q1) (fun y1 M1 q1 y3 M3 q3 => next _ q3))
  | 3, _ => AW.tableIn (off := 242) (tgt := 282) (dq rfl) (by decide) (by decide) (by decide) (by decide) (s247_c3 hG (o1) (fun _ M' => LI M') (lh_85 hl0 hM) (fun _ _ _ M' => LI M') (fun y2 M2 q2 => lm_193 hl0 q2) (fun y2 M2 q2 y4 M4 q4 => next _ q4))
  | 4, _ => AW.tableIn (off := 270) (tgt := 310) (dq rfl) (by decide) (by decide) (by decide) (by decide) (s247_c4 hG (o1) (o2) (fun _ M' => LI M') (lh_88 hl0 hM) (fun _ _ _ M' => LI M') (fun y3 M3 q3 => lm_195 hl0 q3) (fun y3 M3 q3 y5 M5 q5 => next _ q5))
  | 5, _ => AW.tableIn (off := 310) (tgt := 350) (dq rfl) (by decide) (by decide) (by decide) (by decide) (s247_c5 hG (o1) (o2) (fun _ M' => LI M') (lh_91 hl0 hM) (fun _ _ _ M' => LI M') (fun y3 M3 q3 => lm_197 hl0 q3) (fun y3 M3 q3 y5 M5 q5 => next _ q5))
  | 6, _ => AW.tableIn (off := 350) (tgt := 390) (dq rfl) (by decide) (by decide) (by decide) (by decide) (s247_c6 hG (o1) (o2) (fun _ M' => LI M') (lh_94 hl0 hM) (fun _ _ _ M' => LI M') (fun y3 M3 q3 => lm_199 hl0 q3) (fun y3 M3 q3 y5 M5 q5 => next _ q5))
  | 7, _ => AW.tableIn (off := 390) (tgt := 430) (dq rfl) (by decide) (by decide) (by decide) (by decide) (s247_c7 hG (o1) (o2) (fun _ M' => LI M') (lh_96 hl0 hM) (fun _ _ _ M' => LI M') (fun y3 M3 q3 => lm_200 hl0 q3) (fun y3 M3 q3 y5 M5 q5 => next _ q5))
  | 8, _ => AW.tableIn (off := 430) (tgt := 470) (dq rfl) (by decide) (by decide) (by decide) (by decide) (s247_c8 hG (o1) (fun _ M' => LI M') (lh_98 hl0 hM) (fun _ _ _ M' => LI M') (fun y2 M2 q2 => lm_201 hl0 q2) (fun y2 M2 q2 y4 M4 q4 => next _ q4))
  | 9, _ => AW.tableIn (off := 458) (tgt := 498) (dq rfl) (by decide) (by decide) (by decide) (by decide) (s247_c9 hG (o1) (fun _ M' => LI M') (lh_110 hl0 hM) (fun _ _ _ M' => LI M') (fun y2 M2 q2 => lm_213 hl0 q2) (fun y2 M2 q2 y4 M4 q4 => next _ q4))
  | 10, _ => AW.tableIn (off := 486) (tgt := 526) (dq rfl) (by decide) (by decide) (by decide) (by decide) (s247_c10 hG (o1) (fun _ M' => LI M') (lh_113 hl0 hM) (fun _ _ _ M' => LI M') (fun y2 M2 q2 => lm_214 hl0 q2) (fun y2 M2 q2 y4 M4 q4 => next _ q4))
  | 11, _ => AW.tableIn (off := 514) (tgt := 554) (dq rfl) (by decide) (by decide) (by decide) (by decide) (s247_c11 hG (o1) (fun _ M' => LI M') (lh_116 hl0 hM) (fun _ _ _ M' => LI M') (fun y2 M2 q2 => lm_217 hl0 q2) (fun y2 M2 q2 y4 M4 q4 => next _ q4))
  | 12, _ => AW.tableIn (off := 542) (tgt := 582) (dq rfl) (by decide) (by decide) (by decide) (by decide) (s247_c12 hG (o1) (o2) (fun _ M' => LI M') (lm_27 hl0 hM) (fun _ _ _ M' => LI M') (fun y3 M3 q3 => lm_218 hl0 q3) (fun y3 M3 q3 y5 M5 q5 => next _ q5))
  | 13, _ => AW.tableIn (off := 579) (tgt := 619) (dq rfl) (by decide) (by decide) (by decide) (by decide) (s247_c13 hG (o1) (fun _ M' => LI M') (lh_120 hl0 hM) (fun _ _ _ M' => LI M') (fun y2 M2 q2 => lm_219 hl0 q2) (fun y2 M2 q2 y4 M4 q4 => next _ q4))
  | 14, _ => AW.tableIn (off := 607) (tgt := 647) (dq rfl) (by decide) (by decide) (by decide) (by decide) (s247_c14 hG (o1) (fun _ M' => LI M') (lh_123 hl0 hM) (fun _ _ _ M' => LI M') (fun y2 M2 q2 => lm_221 hl0 q2) (fun y2 M2 q2 y4 M4 q4 => next _ q4))
  | 15, _ => AW.tableIn (off := 635) (tgt := 675) (dq rfl) (by decide) (by decide) (by decide) (by decide) (s247_c15 hG (o1) (fun h2 => o2) (fun _ M' => LI M') (fun h2 => lh_128 hl0 hM ⟨by decide, by decide⟩) (fun _ _ _ M' => LI M') (fun h2 y4 M4 q4 h6 => lm_223 hl0 q4 ⟨by decide, by decide⟩) (fun h2 y4 M4 q4 h6 y7 M7 q7 => next _ q7) (fun _ _ _ M' => LI M') (fun h2 y4 M4 q4 h6 => lm_223 hl0 q4 ⟨by decide, by decide⟩) (fun h2 y4 M4 q4 h6 y10 M10 q10 => next _ q10) (fun h2 => o2) (fun _ M' => LI M') (fun h2 => lh_128 hl0 hM ⟨by decide, by decide⟩) (fun _ _ _ M' => LI M') (fun h2 y14 M14 q14 h16 => lm_223 hl0 q14 ⟨by decide, by decide⟩) (fun h2 y14 M14 q14 h16 y17 M17 q17 => next _ q17) (fun _ _ _ M' => LI M') (fun h2 y14 M14 q14 h16 => lm_223 hl0 q14 ⟨by decide, by decide⟩) (fun h2 y14 M14 q14 h16 y20 M20 q20 => next _ q20))
  | 16, _ => AW.tableIn (off := 691) (tgt := 731) (dq rfl) (by decide) (by decide) (by decide) (by decide) (s247_c16 hG (fun _ M' => LI M') (lm_30 hl0 hM) (fun _ _ _ M' => LI M') (fun y1 M1 q1 => lm_226 hl0 q1) (fun y1 M1 q1 y3 M3 q3 => next _ q3))
  | 17, _ => AW.tableIn (off := 704) (tgt := 744) (dq rfl) (by decide) (by decide) (by decide) (by decide) (s247_c17 hG (o1) (o2) (fun _ M' => LI M') (lh_138 hl0 hM) (fun _ _ _ M' => LI M') (fun y3 M3 q3 => lm_227 hl0 q3) (fun y3 M3 q3 y5 M5 q5 => next _ q5))
  | 18, _ => AW.tableIn (off := 744) (tgt := 784) (dq rfl) (by decide) (by decide) (by decide) (by decide) (s247_c18 hG (o1) (fun _ M' => LI M') (lh_143 hl0 hM) (fun _ _ _ M' => LI M') (fun y2 M2 q2 => lm_229 hl0 q2) (fun y2 M2 q2 y4 M4 q4 => next _ q4))
  | 19, _ => AW.tableIn (off := 772) (tgt := 812) (dq rfl) (by decide) (by decide) (by decide) (by decide) (s247_c19 hG (o1) (fun _ M' => LI M') (lh_149 hl0 hM) (fun _ _ _ M' => LI M') (fun y2 M2 q2 => lm_234 hl0 q2) (fun y2 M2 q2 y4 M4 q4 => next _ q4))
  | 20, _ => AW.tableIn (off := 800) (tgt := 840) (dq rfl) (by decide) (by decide) (by decide) (by decide) (s247_c20 hG (o1) (o2) (fun _ M' => LI M') (lh_151 hl0 hM) (fun _ _ _ M' => LI M') (fun y3 M3 q3 => lm_235 hl0 q3) (fun y3 M3 q3 y5 M5 q5 => next _ q5))
  | 21, _ => AW.tableIn (off := 840) (tgt := 880) (dq rfl) (by decide) (by decide) (by decide) (by decide) (s247_c21 hG (o1) (o2) (fun _ M' => LI M') (lh_153 hl0 hM) (fun _ _ _ M' => LI M') (fun y3 M3 q3 => lm_236 hl0 q3) (fun y3 M3 q3 y5 M5 q5 => next _ q5))
  | 22, _ => AW.tableIn (off := 880) (tgt := 920) (dq rfl) (by decide) (by decide) (by decide) (by decide) (s247_c22 hG (o1) (fun M' => LI M') (lm_33 hl0 hM) (fun _ M' => LI M') (fun M2 q2 => lm_237 hl0 q2) (fun M2 q2 M4 q4 => next _ q4))
  | 23, _ => AW.tableIn (off := 903) (tgt := 943) (dq rfl) (by decide) (by decide) (by decide) (by decide) (s247_c23 hG (o1) (fun _ M' => LI M') (lh_155 hl0 hM) (fun _ _ _ M' => LI M') (fun y2 M2 q2 => lm_238 hl0 q2) (fun y2 M2 q2 y4 M4 q4 => next _ q4))
  | 24, _ => AW.tableIn (off := 931) (tgt := 971) (dq rfl) (by decide) (by decide) (by decide) (by decide) (s247_c24 hG (o1) (o2) (fun _ M' => LI M') (lh_163 hl0 hM) (fun _ _ _ M' => LI M') (fun y3 M3 q3 => lm_243 hl0 q3) (fun y3 M3 q3 y5 M5 q5 => next _ q5))
  | 25, _ => AW.tableIn (off := 971) (tgt := 1011) (dq rfl) (by decide) (by decide) (by decide) (by decide) (s247_c25 hG (o1) (fun _ M' => LI M') (lh_168 hl0 hM) (fun _ _ _ M' => LI M') (fun y2 M2 q2 => lm_244 hl0 q2) (fun y2 M2 q2 y4 M4 q4 => next _ q4))
  | 26, _ => AW.tableIn (off := 999) (tgt := 1039) (dq rfl) (by decide) (by decide) (by decide) (by decide) (s247_c26 hG (fun _ M' => LI M') (lm_35 hl0 hM) (fun _ _ _ M' => LI M') (fun y1 M1 q1 => lm_245 hl0 q1) (fun y1 M1 q1 y3 M3 q3 => next _ q3))
  | 27, _ => AW.tableIn (off := 1012) (tgt := 1052) (dq rfl) (by decide) (by decide) (by decide) (by decide) (s247_c27 hG (fun _ M' => LI M') (lm_37 hl0 hM) (fun _ _ _ M' => LI M') (fun y1 M1 q1 => lm_246 hl0 q1) (fun y1 M1 q1 y3 M3 q3 => next _ q3))
  | 28, _ => AW.tableOut (tgt := 1065) (dq rfl) (by decide) (by decide) (AW.mono (Nat.le_add_right _ _) (Nat.le_add_right _ _) (next M hM))
  | 29, _ => AW.tableOut (tgt := 1065) (dq rfl) (by decide) (by decide) (AW.mono (Nat.le_add_right _ _) (Nat.le_add_right _ _) (next M hM))
  | 30, _ => AW.tableOut (tgt := 1065) (dq rfl) (by decide) (by decide) (AW.mono (Nat.le_add_right _ _) (Nat.le_add_right _ _) (next M hM))
  | 31, _ => AW.tableOut (tgt := 1065) (dq rfl) (by decide) (by decide) (AW.mono (Nat.le_add_right _ _) (Nat.le_add_right _ _) (next M hM))
  | j + 32, h => absurd h (by omega)
theorem law_loop (hl0 : l.1.stackTraces = false) (hG : ∀ G, l.2 G → scOk (some L, fun _ => none, [], []) xs G) (hL : L ≤ 3072) (hP : ∀ M', P (.inl (some (.int 1))) SHF M') : ∀ (d c : Nat) (M : aM), LI M → L < 6 * c + 6 + 6 * d → c + d ≤ 512 → AW l (pI pg 247) P (2 * d) (12 * d) 23 [(4, .int (nI (6 * c))), (0, .retAddr 0), (1, .ref 0), (2, .ref 58), (3, .ref 93)] [] SHF M := by
  have lt : ∀ c : Nat, c ≤ 512 → ((Int32.ofNat L - (Int8.ofInt 6).toInt32 < nI (6 * c)) ↔ L < 6 * c + 6) := by
    intro c hc
    rw [z_6, Int32.lt_iff_toInt_lt, show (Int32.ofNat L - nI 6).toInt = (L : Int) - 6 from pk_sub_toInt (by omega) (by decide), nI_toInt (by omega)]
    omega
  intro d
  induction d with
  | zero =>
    intro c M hM h1 h2
    have hlt := (lt c (by omega)).mpr (by omega)
    have no : ¬ ¬ (Int32.ofNat L - (Int8.ofInt 6).toInt32 < nI (6 * c)) := fun h => h hlt
    have k0 := s247_23z (kc := 0) (ks := 0) (P := P) (M := M) (i := 6 * c) hG (fun _ => hP M) (fun h => absurd h no) (fun h => absurd h no)
    exact k0
  | succ d ih =>
    intro c M hM h1 h2
    show AW l (pI pg 247) P (2 * d + 2) (12 * d + 12) 23 _ _ _ _
    refine s247_23 hG (fun _ => hP M) (fun h => ?_) (fun h => ?_)
    · rw [lt c (by omega)] at h
      exact vp_in_nI (by omega) (by omega)
    rw [lt c (by omega)] at h
    have h6 : 6 * c + 6 ≤ L := by omega
    have o1 : vp_in (nI (6 * c) + Int32.ofInt 1) L := by
      rw [show nI (6 * c) + Int32.ofInt 1 = nI (6 * c + 1) from nI_add _ 1]
      exact vp_in_nI (by omega) (by omega)
    have o2 : vp_in (nI (6 * c) + Int32.ofInt 2) L := by
      rw [show nI (6 * c) + Int32.ofInt 2 = nI (6 * c + 2) from nI_add _ 2]
      exact vp_in_nI (by omega) (by omega)
    have o3 : vp_in (nI (6 * c) + Int32.ofInt 3) L := by
      rw [show nI (6 * c) + Int32.ofInt 3 = nI (6 * c + 3) from nI_add _ 3]
      exact vp_in_nI (by omega) (by omega)
    have o4 : vp_in (nI (6 * c) + Int32.ofInt 4) L := by
      rw [show nI (6 * c) + Int32.ofInt 4 = nI (6 * c + 4) from nI_add _ 4]
      exact vp_in_nI (by omega) (by omega)
    have o5 : vp_in (nI (6 * c) + Int32.ofInt 5) L := by
      rw [show nI (6 * c) + Int32.ofInt 5 = nI (6 * c + 5) from nI_add _ 5]
      exact vp_in_nI (by omega) (by omega)
    have next : ∀ M', LI M' → AW l (pI pg 247) P (2 * d) (12 * d) 1065 [(4, .int (nI (6 * c))), (0, .retAddr 0), (1, .ref 0), (2, .ref 58), (3, .ref 93)] [] SHF M' := by
      intro M' hM'
      refine s247_1065 hG ?_
      rw [show nI (6 * c) + Int32.ofInt 6 = nI (6 * (c + 1)) from nI_add _ 6]
      exact ih (c + 1) M' hM' (by omega) (by omega)
    obtain ⟨j, hj, e⟩ := pk_andE (xs (nI (6 * c)).toNatClampNeg) (m := (Int8.ofInt 31).toInt32) 5 (by decide)
    rw [e]
    exact law_sw hl0 hG hM o1 o2 o3 o4 o5 next j hj
end LOOP
/-- the start: what the constructors leave -/
def rg0 (G : List (Nat × Nat × Value)) (e : Nat × (iI ⊕ List (Nat × iI))) : Bool := match e.2 with
  | .inl q => decide (q.1 ≤ 0) && (decide (0 ≤ q.2) && G.all (fun z => !Nat.beq z.1 e.1 || (match z.2.2 with
    | .int x => decide (q.1 ≤ x.toInt) && decide (x.toInt ≤ q.2)
    | _ => false)))
  | .inr F => F.all (fun f => match gk (.int 0) G e.1 f.1 with
    | .int x => decide (f.2.1 ≤ x.toInt) && decide (x.toInt ≤ f.2.2)
    | _ => false)
theorem gk_mem {α : Type} {z : α} : ∀ (G : List (Nat × Nat × α)) (a k : Nat), gk z G a k = z ∨ ∃ q ∈ G, q.1 = a ∧ q.2.2 = gk z G a k
  | [], _, _ => Or.inl rfl
  | q :: r, a, k => by
    unfold gk
    split
    · next h =>
        rw [Bool.and_eq_true] at h
        exact Or.inr ⟨q, List.mem_cons_self, Nat.eq_of_beq_eq_true h.1, rfl⟩
    · rcases gk_mem r a k with h | ⟨q', h1, h2⟩
      · exact Or.inl h
      · exact Or.inr ⟨q', List.mem_cons_of_mem _ h1, h2⟩
theorem rg0_ok {xs : Nat → Int32} {g : gM} {e : Nat × (iI ⊕ List (Nat × iI))} (h : rg0 g.1 e = true) : rgOk (den xs g) e := by
  unfold rg0 at h
  unfold rgOk
  split at h
  · next q hq =>
      rw [hq]
      simp only [Bool.and_eq_true, decide_eq_true_eq] at h
      obtain ⟨h1, h2, h3⟩ := h
      intro k
      show inI (iv xs (gk (.int 0) g.1 e.1 k)) q
      rcases gk_mem (z := (Value.int 0)) g.1 e.1 k with h | ⟨z, hz, hz1, hz2⟩
      · rw [h]
        exact ⟨by show q.1 ≤ (0 : Int32).toInt; rw [show (0 : Int32).toInt = 0 by decide]; exact h1, by show (0 : Int32).toInt ≤ q.2; rw [show (0 : Int32).toInt = 0 by decide]; exact h2⟩
      · have h4 := List.all_eq_true.mp h3 z hz
        rw [hz1, Nat.beq_refl, Bool.not_true, Bool.false_or] at h4
        rw [← hz2]
        split at h4
        · next x hx =>
            rw [hx]
            simp only [Bool.and_eq_true, decide_eq_true_eq] at h4
            exact h4
        · cases h4
  · next F hF =>
      rw [hF]
      intro f hf
      have h4 := List.all_eq_true.mp h f hf
      show inI (iv xs (gk (.int 0) g.1 e.1 f.1)) f.2
      split at h4
      · next x hx =>
          rw [hx]
          simp only [Bool.and_eq_true, decide_eq_true_eq] at h4
          exact h4
      · cases h4
theorem LI_0 (xs : Nat → Int32) : LI (den xs LM0) := by
  refine ⟨Or.inl ⟨fun e he => rg0_ok (List.all_eq_true.mp (show RR.1.all (rg0 LM0.1) = true by decide +kernel) e he), fun e he => ?_⟩, rfl⟩
  show gk 0 LM0.2.2 e.1 e.2.1 = e.2.2
  exact (show ∀ e ∈ RR.2, gk 0 LM0.2.2 e.1 e.2.1 = e.2.2 by decide +kernel) e he
/-- THE LAW, on a script of at most 3072 ints -/
theorem p2_law {l : Launch} {P : aP} {xs : Nat → Int32} {L : Nat} (hL : L ≤ 3072) (hl0 : l.stackTraces = false) (hP : ∀ sh M, P (.inl (some (.int 1))) sh M) : AW (l, fun G => G.2.2.2.2 = xs ∧ G.2.2.2.1 = L) (pI pg 247) P (1024 + 94) (6144 + 11823) 0 [(0, .retAddr 0)] [] (true, []) (den xs ([], [], [])) := by
  refine eqK_ok (sc := scN) pg_ok hl0 (fun G hG => ⟨hG.1, fun _ h => (by cases h), fun _ _ h => (by cases h), fun _ h => absurd h List.not_mem_nil, fun _ h => absurd h List.not_mem_nil⟩) p1_made ?_
  refine AW.shf ?_
  refine AW.drop (lv' := [(4, .int (nI (6 * 0))), (0, .retAddr 0), (1, .ref 0), (2, .ref 58), (3, .ref 93)]) (List.forall_mem_cons.mpr ⟨List.mem_of_getElem? (i := 0) rfl, List.forall_mem_cons.mpr ⟨List.mem_of_getElem? (i := 4) rfl, List.forall_mem_cons.mpr ⟨List.mem_of_getElem? (i := 3) rfl, List.forall_mem_cons.mpr ⟨List.mem_of_getElem? (i := 2) rfl, List.forall_mem_cons.mpr ⟨List.mem_of_getElem? (i := 1) rfl, fun _ h => absurd h List.not_mem_nil⟩⟩⟩⟩⟩) ?_
  exact law_loop (l := (l, fun G => G.2.2.2.2 = xs ∧ G.2.2.2.1 = L)) hl0 (fun G hG => ⟨hG.1, fun _ h => (by cases h; exact hG.2), fun _ _ h => (by cases h), fun _ h => absurd h List.not_mem_nil, fun _ h => absurd h List.not_mem_nil⟩) hL (fun M' => hP _ _) 512 0 _ (LI_0 xs) (by omega) (by omega)
