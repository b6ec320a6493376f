theorem hoC_of {H : HS} {M M' : aM} {W : sW} (h : hoC H M) (h22 : M'.2.2 = M.2.2) (hfr : ∀ a k, wrW W a k = false → M'.1 a k = M.1 a k) (hA : ∀ a ∈ W.1, ∃ q, wcA RR.1 a q = true ∧ ∀ k, inI (M'.1 a k) q) (hF : ∀ f ∈ W.2, ∃ q, wcF RR.1 f.1 f.2 q = true ∧ inI (M'.1 f.1 f.2) q) (hW : (W.1.all (fun b => !(Nat.ble 4 b && Nat.ble b 29)) && W.2.all (fun b => !(Nat.ble 4 b.1 && Nat.ble b.1 29))) = true) : hoC H M' := by
  have fr : ∀ a k, 4 ≤ a → a ≤ 29 → M'.1 a k = M.1 a k := fun a k h1 h2 => hfr a k (wr_p (fun b => Nat.ble 4 b && Nat.ble b 29) hW (by rw [Bool.and_eq_true]; exact ⟨Nat.ble_eq_true_of_le h1, Nat.ble_eq_true_of_le h2⟩))
  rcases h with ⟨h, hc⟩ | ⟨h, hc⟩
  · have := Jm_of h h22 hfr hA hF
    exact Or.inl ⟨⟨this.1, this.2.1⟩, cH_eq hc (fun a k h1 h2 => fr a k (by omega) (by omega))⟩
  · have := Jm_of (R := RRS) h h22 hfr hA hF
    exact Or.inr ⟨⟨this.1, this.2.1⟩, cH_eq hc (fun a k h1 h2 => fr a k (by omega) (by omega))⟩
/-- the byte that a feed lays -/
noncomputable def ubF (u : Nat → Nat) (s : Nat) (f : Nat → Int32) (i : Nat) : Nat := if i < s then u i else Classical.choose (byt_b (f (i - s)) ((i - s) % 4))
theorem ubF_lt {u : Nat → Nat} {s : Nat} {f : Nat → Int32} (hu : ∀ i, u i < 256) (i : Nat) : ubF u s f i < 256 := by
  unfold ubF
  split
  · exact hu i
  · exact (Classical.choose_spec (byt_b (f (i - s)) ((i - s) % 4))).1
theorem ubF_lo {u : Nat → Nat} {s : Nat} {f : Nat → Int32} {i : Nat} (h : i < s) : ubF u s f i = u i := if_pos h
theorem ubF_B {u : Nat → Nat} {s : Nat} {f : Nat → Int32} {i : Nat} (h : ¬ i < s) : tbB (f (i - s)) ((i - s) % 4) = sB (ubF u s f i) := by
  unfold ubF
  rw [if_neg h]
  exact (Classical.choose_spec (byt_b (f (i - s)) ((i - s) % 4))).2.1
theorem ubF_I {u : Nat → Nat} {s : Nat} {f : Nat → Int32} {i : Nat} (h : ¬ i < s) : tbI (f (i - s)) ((i - s) % 4) = nI (ubF u s f i) := by
  unfold ubF
  rw [if_neg h]
  exact (Classical.choose_spec (byt_b (f (i - s)) ((i - s) % 4))).2.2
theorem J_3 {H : HS} {M : aM} (h : hoC H M) (k : Nat) : inI (M.1 3 k) ((-128), 127) := (hoC_J h).elim (fun h => rgA_ok h.1 (show rgA RR.1 3 = some ((-128), 127) by decide +kernel) k) (fun h => rgA_ok h.1 (show rgA RRS.1 3 = some ((-128), 127) by decide +kernel) k)
theorem J_65 {H : HS} {M : aM} (h : hoC H M) (k : Nat) : inI (M.1 65 k) (0, 255) := (hoC_J h).elim (fun h => rgA_ok h.1 (show rgA RR.1 65 = some (0, 255) by decide +kernel) k) (fun h => rgA_ok h.1 (show rgA RRS.1 65 = some (0, 255) by decide +kernel) k)
theorem n800 {v : Nat} (h : v ≤ 800) : inI (nI v) (0, 800) := by
  show (0 : Int) ≤ (nI v).toInt ∧ (nI v).toInt ≤ 800
  rw [nI_toInt (by omega)]
  omega
/-- a feed of the class -/
theorem feed_C {u : Nat → Nat} {s : Nat} {H : HS} {M M6 : aM} {f : Nat → Int32} {y : Int32} (h : LJ u s H M) (e6 : M6.2.2 = M.2.2) (q : Q24 s f M y M6) : hoC H M6 ∧ (∀ a k, 4 ≤ a → M6.1 a k = M.1 a k) ∧ M6.1 0 13 = M.1 0 13 ∧ ((s ≤ 780 ∧ M6.1 2 1 = nI (s + 20) ∧ ∀ i, i < s + 20 → M6.1 3 i = sB (ubF u s f i)) ∨ (780 < s ∧ M6.1 2 1 = nI s ∧ ∀ i, i < s → M6.1 3 i = sB (u i))) := by
  obtain ⟨⟨s8, h21, h58, hu, hb, hr⟩, hI, hC, hm, hf⟩ := h
  rcases q with ⟨q1, q2, q3, q4, q5, q7⟩ | ⟨q1, q2, rfl⟩
  · refine ⟨hoC_of (W := ([3], [(2, 1)])) hC e6 (fun a k hw => q7 a k ((wr_no hw).1 3 (by decide)) (fun e => (wr_no hw).2 (2, 1) (by decide) e)) (fun a ha => ?_) (fun g hg => ?_) (by decide +kernel), fun a k ha => q7 a k (by omega) (fun e => by omega), q7 0 13 (by decide) (by decide), Or.inl ⟨q1, q3, fun i hi => ?_⟩⟩
    · have ha : a = 3 := by simpa using ha
      subst ha
      refine ⟨((-128), 127), by decide +kernel, fun k => ?_⟩
      by_cases e : k < s ∨ s + 20 ≤ k
      · rw [q5 k e]
        exact J_3 hC k
      · have e2 := q4 (k - s) (by omega)
        rw [show s + (k - s) = k by omega] at e2
        rw [e2]
        exact nar_b _
    · have hg : g = (2, 1) := by simpa using hg
      subst hg
      refine ⟨(0, 800), by decide +kernel, ?_⟩
      show inI (M6.1 2 1) (0, 800)
      rw [q3]
      exact n800 (by omega)
    · by_cases e : i < s
      · rw [q5 i (Or.inl e), ubF_lo e]
        exact hb i e
      · have e2 := q4 (i - s) (by omega)
        rw [show s + (i - s) = i by omega] at e2
        rw [e2]
        exact ubF_B e
  · exact ⟨hC, fun _ _ _ => rfl, rfl, Or.inr ⟨q1, h21, hb⟩⟩
/-- a feed of the reference -/
theorem feed_M {u : Nat → Nat} {s : Nat} {H : HS} {M6 M8 : aM} {f : Nat → Int32} {y : Int32} (s8 : s ≤ 800) (hr : ∀ i, i < s → M6.1 65 i = nI (u i)) (hC : hoC H M6) (e8 : M8.2.2 = M6.2.2) (q : Q171 s f M6 y M8) : hoC H M8 ∧ (∀ a k, a ≠ 65 → (a = 58 → k ≠ 12 ∧ k ≠ 0) → M8.1 a k = M6.1 a k) ∧ ((s ≤ 780 ∧ M8.1 58 12 = nI (s + 20) ∧ ∀ i, i < s + 20 → M8.1 65 i = nI (ubF u s f i)) ∨ (780 < s ∧ M8.1 58 12 = nI s ∧ ∀ i, i < s → M8.1 65 i = nI (u i))) := by
  obtain ⟨q1, q2, q3⟩ := q
  refine ⟨hoC_of (W := ([65], [(58, 12), (58, 0)])) hC e8 (fun a k hw => q1 a k ((wr_no hw).1 65 (by decide)) (fun e => ⟨(wr_no hw).2 (58, 12) (by decide) e, (wr_no hw).2 (58, 0) (by decide) e⟩)) (fun a ha => ?_) (fun g hg => ?_) (by decide +kernel), q1, ?_⟩
  · have ha : a = 65 := by simpa using ha
    subst ha
    refine ⟨(0, 255), by decide +kernel, fun k => ?_⟩
    rcases q3 with ⟨-, -, -, q4, q5⟩ | ⟨-, -, -, q5⟩
    · by_cases e : k < s ∨ s + 20 ≤ k
      · rw [q5 k e]
        exact J_65 hC k
      · have e2 := q4 (k - s) (by omega)
        rw [show s + (k - s) = k by omega] at e2
        rw [e2]
        exact tbI_in _ _
    · rw [q5 k]
      exact J_65 hC k
  · have hg : g = (58, 12) ∨ g = (58, 0) := by simpa using hg
    rcases hg with rfl | rfl
    · refine ⟨(0, 800), by decide +kernel, ?_⟩
      show inI (M8.1 58 12) (0, 800)
      rcases q3 with ⟨q4, -, q5, -⟩ | ⟨q4, -, q5, -⟩
      · rw [q5]
        exact n800 (by omega)
      · rw [q5]
        exact n800 (by omega)
    · refine ⟨(0, 2), by decide +kernel, ?_⟩
      show (0 : Int) ≤ (M8.1 58 0).toInt ∧ (M8.1 58 0).toInt ≤ 2
      rw [q2]
      decide
  · rcases q3 with ⟨q4, q5, q6, q7, q8⟩ | ⟨q4, q5, q6, q8⟩
    · refine Or.inl ⟨q4, q6, fun i hi => ?_⟩
      by_cases e : i < s
      · rw [q8 i (Or.inl e), ubF_lo e]
        exact hr i e
      · have e2 := q7 (i - s) (by omega)
        rw [show s + (i - s) = i by omega] at e2
        rw [e2]
        exact ubF_I e
    · exact Or.inr ⟨q4, q6, fun i hi => (q8 i).trans (hr i hi)⟩
/-- what both feeds leave -/
theorem feed_LI {u : Nat → Nat} {s : Nat} {H : HS} {M M6 M8 : aM} {f : Nat → Int32} {y y' : Int32} (h : LJ u s H M) (e6 : M6.2.2 = M.2.2) (q6 : Q24 s f M y M6) (e8 : M8.2.2 = M6.2.2) (q8 : Q171 s f M6 y' M8) : LI M8 := by
  obtain ⟨a1, a2, a3, a4⟩ := feed_C h e6 q6
  obtain ⟨⟨s8, h21, h58, hu, hb, hr⟩, hI, hC, hm, hf⟩ := h
  obtain ⟨b1, b2, b3⟩ := feed_M (u := u) s8 (fun i hi => (a2 65 i (by decide)).trans (hr i hi)) a1 e8 q8
  have hm8 : mHo H M8 := mH_eq (fun k k1 k4 => (b2 58 k (by decide) (fun _ => by omega)).trans (a2 58 k (by decide))) (fun a k c1 c2 => (b2 a k (by omega) (fun e => by omega)).trans (a2 a k (by omega))) hm
  have hf8 : M8.1 0 13 = M8.1 58 14 := by
    rw [b2 0 13 (by decide) (by decide), b2 58 14 (by decide) (by decide), a3, a2 58 14 (by decide)]
    exact hf
  rcases a4 with ⟨c1, c2, c3⟩ | ⟨c1, c2, c3⟩ <;> rcases b3 with ⟨d1, d2, d3⟩ | ⟨d1, d2, d3⟩
  · exact ⟨ubF u s f, s + 20, H, ⟨by omega, (b2 2 1 (by decide) (by decide)).trans c2, d2, ubF_lt hu, fun i hi => (b2 3 i (by decide) (fun e => absurd e (by decide))).trans (c3 i hi), d3⟩, hI, b1, hm8, hf8⟩
  · omega
  · omega
  · exact ⟨u, s, H, ⟨s8, (b2 2 1 (by decide) (by decide)).trans c2, d2, hu, fun i hi => (b2 3 i (by decide) (fun e => absurd e (by decide))).trans (c3 i hi), d3⟩, hI, b1, hm8, hf8⟩
theorem thr_c {l : aL} (hl0 : l.1.stackTraces = false) {M : aM} : AC l (pI pg 171) (gcI (fun y M' => M.1 58 0 = y ∧ M = M')) 0 0 [.ref 58] SHF M := by
  refine fw_of hl0 ⟨by decide +kernel, by decide +kernel, by decide +kernel⟩ rfl ?_
  exact thr_0 ⟨rfl, _, rfl, rfl, rfl⟩
theorem cmp_eq {x y : Int64} (h : x = y) : lg_cmp x y = 0 := by
  subst h
  simp [lg_cmp]
/-- house of both: the answers, and what is left -/
def QH2 (u : Nat → Nat) (s : Nat) (x y2 : Int32) (M2 : aM) : Int32 → aM → Prop := fun y4 M4 => M4.1 58 0 = y2 ∧ LI M4 ∧ (y2 = 0 → M4.2.1 93 0 = y4.toInt64)
theorem hou2_c {l : aL} (hl0 : l.1.stackTraces = false) {M M2 : aM} {u : Nat → Nat} {s : Nat} {H0 : HS} (h : LJ u s H0 M) {x y2 : Int32} (q2 : QHH u H0 x M y2 M2) : AC l (pI pg 174) (gcI (QH2 u s x y2 M2)) 0 0 [.ref 58, .int x] SHF M2 := by
  obtain ⟨⟨s8, h21, h58, hu, hb, hr⟩, hI, hC, hm, hf⟩ := h
  rcases q2 with ⟨k1, rfl, k3⟩ | ⟨k0, y, k1, k2, k3, k4, k5, k6, k7⟩
  · have hx : x < 0 ∨ M2.1 58 12 < x := by
      rcases k3 with k | k
      · exact Or.inl k
      · refine Or.inr ?_
        rw [h58, ← h21]
        rw [Int32.le_iff_toInt_le] at k
        rw [Int32.lt_iff_toInt_lt]
        omega
    refine fcgI hl0 (mhx_c hl0 hC hx) (fun y4 M4 e4 q4 => ⟨q4.1.trans (by rw [k1]; rfl), ⟨u, s, H0, ⟨s8, (q4.2.2 2 1 (by decide)).trans h21, (q4.2.2 58 12 (by decide)).trans h58, hu, fun i hi => (q4.2.2 3 i (fun e => absurd e (by decide))).trans (hb i hi), fun i hi => (q4.2.2 65 i (fun e => absurd e (by decide))).trans (hr i hi)⟩, hI, q4.2.1, mH_eq (fun k k1 k4 => q4.2.2 58 k (fun _ => by omega)) (fun a k a1 a2 => q4.2.2 a k (fun e => by omega)) hm, ?_⟩, fun e => ?_⟩)
    · rw [q4.2.2 0 13 (by decide), q4.2.2 58 14 (by decide)]
      exact hf
    · rw [k1] at e
      exact absurd e (by decide)
  · have hn : x.toInt.toNat ≤ s := by
      rw [h21, Int32.le_iff_toInt_le, nI_toInt (by omega)] at k3
      omega
    have hx : x = nI x.toInt.toNat := nI_self (by
      rw [Int32.lt_iff_toInt_lt] at k2
      have : (0 : Int32).toInt = 0 := by decide
      omega)
    generalize x.toInt.toNat = n at *
    subst hx
    have hm2 : mHo H0 M2 := mH_eq (fun k k1 k4 => k5 58 k (by decide)) (fun a k a1 a2 => k5 a k (by omega)) hm
    have t0 : ∀ (M4 : aM), M4.1 2 1 = 0 → M4.1 58 12 = 0 → TP u 0 M4 := fun M4 t1 t2 => ⟨by decide, t1, t2, hu, fun i hi => absurd hi (Nat.not_lt_zero _), fun i hi => absurd hi (Nat.not_lt_zero _)⟩
    cases hp : parS u n (n + 1) HS0 0 with
    | inl f =>
      obtain ⟨g1, g2, g3, g4, g5⟩ := k6 f hp
      refine fcgI hl0 (mho_c hl0 g5 hI hm2 s8 hn ((k5 58 12 (by decide)).trans h58) hu (fun i hi => (k5 65 i (by decide)).trans (hr i hi))) (fun y4 M4 e4 q4 => ?_)
      obtain ⟨r1, r2, r3, r4, r5, r6, -⟩ := q4
      obtain ⟨w1, w2, w3, w4, w5⟩ := r6 f hp
      refine ⟨r1.trans (by rw [k0]; rfl), ⟨u, 0, H0, t0 M4 ((r4 2 1 (by decide)).trans k4) r2, hI, r5, w5, ?_⟩, fun _ => ?_⟩
      · rw [r4 0 13 (by decide), g2, w2]
      · rw [r3, k1, g1, w1]
    | inr H =>
      obtain ⟨g1, g2, g3, g4, g5⟩ := k7 H hp
      refine fcgI hl0 (mho_c hl0 g5 hI hm2 s8 hn ((k5 58 12 (by decide)).trans h58) hu (fun i hi => (k5 65 i (by decide)).trans (hr i hi))) (fun y4 M4 e4 q4 => ?_)
      obtain ⟨r1, r2, r3, r4, r5, -, r6⟩ := q4
      obtain ⟨w1, w2, w3, w4, w5⟩ := r6 H hp
      refine ⟨r1.trans (by rw [k0]; rfl), ⟨u, 0, H, t0 M4 ((r4 2 1 (by decide)).trans k4) r2, w4, r5, w5, ?_⟩, fun _ => ?_⟩
      · rw [r4 0 13 (by decide), g2, w2]
      · rw [r3, k1, g1, w1]
section LOOP
variable {l : aL} {P : aP} {kc ks i L : Nat} {xs : Nat → Int32} {M : aM}
theorem law_c0 (hl0 : l.1.stackTraces = false) (hG : ∀ G, l.2 G → scOk (some L, fun _ => none, [], []) xs G) (hM : LI M) (o1 : vp_in (nI i + Int32.ofInt 1) L) (o2 : vp_in (nI i + Int32.ofInt 2) L) (o3 : vp_in (nI i + Int32.ofInt 3) L) (o4 : vp_in (nI i + Int32.ofInt 4) L) (o5 : vp_in (nI i + Int32.ofInt 5) L)
    (next : ∀ M', LI M' → AW l (pI pg 248) P kc ks 1093 [(4, .int (nI i)), (0, .retAddr 0), (1, .ref 0), (2, .ref 58), (3, .ref 93)] [] SHF M') : AW l (pI pg 248) P (kc + 2) (ks + 12) 168 [(4, .int (nI i)), (0, .retAddr 0), (1, .ref 0), (2, .ref 58), (3, .ref 93)] [] SHF M := by
  obtain ⟨u, s, H, hJ⟩ := hM
  have h58 : ∀ {M6 : aM} {f : Nat → Int32} {y : Int32}, M6.2.2 = M.2.2 → Q24 s f M y M6 → M6.1 58 12 = nI s := fun {M6 f y} e6 q6 => ((feed_C hJ e6 q6).2.1 58 12 (by decide)).trans hJ.1.2.2.1
  have jx : ∀ {M6 : aM} {f : Nat → Int32} {y : Int32}, M6.2.2 = M.2.2 → Q24 s f M y M6 → JX M6 := fun {M6 f y} e6 q6 => hoC_J (feed_C hJ e6 q6).1
  exact lw_c0 hG o1 o2 o3 o4 o5 (fun y M' => M'.2.2 = M.2.2 ∧ Q24 s (fdV (xs (nI i + Int32.ofInt 1).toNatClampNeg) (xs (nI i + Int32.ofInt 2).toNatClampNeg) (xs (nI i + Int32.ofInt 3).toNatClampNeg) (xs (nI i + Int32.ofInt 4).toNatClampNeg) (xs (nI i + Int32.ofInt 5).toNatClampNeg)) M y M') (fcgI hl0 (c24 hl0 (JX_RC (hoC_J hJ.2.2.1)) hJ.1.1 hJ.1.2.1) (fun y M' e6 q6 => ⟨e6, q6⟩)) (fun _ M6 y M8 => M8.2.2 = M6.2.2 ∧ Q171 s (fdV (xs (nI i + Int32.ofInt 1).toNatClampNeg) (xs (nI i + Int32.ofInt 2).toNatClampNeg) (xs (nI i + Int32.ofInt 3).toNatClampNeg) (xs (nI i + Int32.ofInt 4).toNatClampNeg) (xs (nI i + Int32.ofInt 5).toNatClampNeg)) M6 y M8) (fun y M6 q6 => fcgI hl0 (c171 hl0 (JX_RM (jx q6.1 q6.2)) hJ.1.1 (h58 q6.1 q6.2)) (fun y M' e8 q8 => ⟨e8, q8⟩)) (fun y6 M6 q6 y8 M8 q8 => next M8 (feed_LI hJ q6.1 q6.2 q8.1 q8.2))
theorem law_c1 (hl0 : l.1.stackTraces = false) (hG : ∀ G, l.2 G → scOk (some L, fun _ => none, [], []) xs G) (hM : LI M) (o1 : vp_in (nI i + Int32.ofInt 1) L)
    (next : ∀ M', LI M' → AW l (pI pg 248) P kc ks 1093 [(4, .int (nI i)), (0, .retAddr 0), (1, .ref 0), (2, .ref 58), (3, .ref 93)] [] SHF M') : AW l (pI pg 248) P (kc + 2) (ks + 12) 241 [(4, .int (nI i)), (0, .retAddr 0), (1, .ref 0), (2, .ref 58), (3, .ref 93)] [] SHF M := by
  obtain ⟨u, s, H, hJ⟩ := hM
  exact lw_c1 hG o1 (QHH u H (xs (nI i + Int32.ofInt 1).toNatClampNeg) M) (help_house hl0 hJ) (fun y2 M2 => QH2 u s (xs (nI i + Int32.ofInt 1).toNatClampNeg) y2 M2) (fun y2 M2 q2 => hou2_c hl0 hJ q2) (fun y2 M2 q2 y4 M4 q4 => next M4 q4.2.1)
theorem law_c21 (hl0 : l.1.stackTraces = false) (hG : ∀ G, l.2 G → scOk (some L, fun _ => none, [], []) xs G) (hM : LI M) (o1 : vp_in (nI i + Int32.ofInt 1) L) (o2 : vp_in (nI i + Int32.ofInt 2) L)
    (next : ∀ M', LI M' → AW l (pI pg 248) P kc ks 1093 [(4, .int (nI i)), (0, .retAddr 0), (1, .ref 0), (2, .ref 58), (3, .ref 93)] [] SHF M') : AW l (pI pg 248) P (kc + 2) (ks + 12) 880 [(4, .int (nI i)), (0, .retAddr 0), (1, .ref 0), (2, .ref 58), (3, .ref 93)] [] SHF M := by
  obtain ⟨u, s, H, hJ⟩ := hM
  refine lw_c21 hG o1 o2 (fun k M' => LJ u s H M' ∧ QPs (seO H (xs (nI i + Int32.ofInt 1).toNatClampNeg) (xs (nI i + Int32.ofInt 2).toNatClampNeg)) k M') (hz_153 hl0 hJ) (fun _ M2 z M' => LJ u s H M' ∧ mOs (seO H (xs (nI i + Int32.ofInt 1).toNatClampNeg) (xs (nI i + Int32.ofInt 2).toNatClampNeg)) z M' ∧ M'.2.1 93 0 = M2.2.1 93 0) (fun y2 M2 q2 => mz_237 hl0 q2.1) (fun _ _ _ M4 y M' => M4.1 58 0 = y ∧ M4 = M') (fun y2 M2 q2 y4 M4 q4 => thr_c hl0) (fun y2 M2 q2 y4 M4 q4 y6 M6 q6 h8 h9 => ?_) (fun _ _ _ _ _ _ _ _ _ _ _ => vp_in_nI (n := 0) (by decide) (by decide)) (fun y2 M2 q2 y4 M4 q4 y6 M6 q6 h8 h9 h12 => ?_) (fun y2 M2 q2 y4 M4 q4 y6 M6 q6 h8 h9 h12 => ?_) (fun y2 M2 q2 y4 M4 q4 y6 M6 q6 h8 => ?_)
  · rw [← q6.2]
    exact next M4 ⟨u, s, H, q4.1⟩
  · rw [← q6.2]
    exact next M4 ⟨u, s, H, q4.1⟩
  · exfalso
    have c := cmpOs q2.2 q4.2.1 q4.2.2
    obtain ⟨-, rfl⟩ := q6
    exact h12 (cmp_eq (c.2 h9))
  · have c := cmpOs q2.2 q4.2.1 q4.2.2
    exact absurd (q6.1.symm.trans c.1) h8
theorem law_sw (hl0 : l.1.stackTraces = false) (hG : ∀ G, l.2 G → scOk (some L, fun _ => none, [], []) xs G) (hM : LI M) (o1 : vp_in (nI i + Int32.ofInt 1) L) (o2 : vp_in (nI i + Int32.ofInt 2) L) (o3 : vp_in (nI i + Int32.ofInt 3) L) (o4 : vp_in (nI i + Int32.ofInt 4) L) (o5 : vp_in (nI i + Int32.ofInt 5) L)
    (next : ∀ M', LI M' → AW l (pI pg 248) P kc ks 1093 [(4, .int (nI i)), (0, .retAddr 0), (1, .ref 0), (2, .ref 58), (3, .ref 93)] [] SHF M') : ∀ j, j < 2 ^ 5 → AW l (pI pg 248) P (kc + 2) (ks + 12) 40 [(4, .int (nI i)), (0, .retAddr 0), (1, .ref 0), (2, .ref 58), (3, .ref 93)] [.int (nI j)] SHF M
  | 0, _ => AW.tableIn (off := 128) (tgt := 168) (dq rfl) (by decide) (by decide) (by decide) (by decide) (law_c0 hl0 hG hM o1 o2 o3 o4 o5 next)
  | 1, _ => AW.tableIn (off := 201) (tgt := 241) (dq rfl) (by decide) (by decide) (by decide) (by decide) (law_c1 hl0 hG hM o1 next)
  | 2, _ => AW.tableIn (off := 229) (tgt := 269) (dq rfl) (by decide) (by decide) (by decide) (by decide) (Exists.elim hM fun u h1 => Exists.elim h1 fun s h2 => Exists.elim h2 fun H hJ => lw_c2 hG (fun _ M' => LJ u s H M') (lm_26 hl0 hJ) (fun _ _ _ M' => LJ u s H M') (fun y1 M1 q1 => lm_193 hl0 q1) (fun y1 M1 q1 y3 M3 q3 => next _ ⟨u, s, H, q3⟩))
  | 3, _ => AW.tableIn (off := 242) (tgt := 282) (dq rfl) (by decide) (by decide) (by decide) (by decide) (Exists.elim hM fun u h1 => Exists.elim h1 fun s h2 => Exists.elim h2 fun H hJ => lw_c3 hG (o1) (fun _ M' => LJ u s H M') (lh_85 hl0 hJ) (fun _ _ _ M' => LJ u s H M') (fun y2 M2 q2 => lm_194 hl0 q2) (fun y2 M2 q2 y4 M4 q4 => next _ ⟨u, s, H, q4⟩))
  | 4, _ => AW.tableIn (off := 270) (tgt := 310) (dq rfl) (by decide) (by decide) (by decide) (by decide) (Exists.elim hM fun u h1 => Exists.elim h1 fun s h2 => Exists.elim h2 fun H hJ => lw_c4 hG (o1) (o2) (fun _ M' => LJ u s H M') (lh_88 hl0 hJ) (fun _ _ _ M' => LJ u s H M') (fun y3 M3 q3 => lm_196 hl0 q3) (fun y3 M3 q3 y5 M5 q5 => next _ ⟨u, s, H, q5⟩))
  | 5, _ => AW.tableIn (off := 310) (tgt := 350) (dq rfl) (by decide) (by decide) (by decide) (by decide) (Exists.elim hM fun u h1 => Exists.elim h1 fun s h2 => Exists.elim h2 fun H hJ => lw_c5 hG (o1) (o2) (fun _ M' => LJ u s H M') (lh_91 hl0 hJ) (fun _ _ _ M' => LJ u s H M') (fun y3 M3 q3 => lm_198 hl0 q3) (fun y3 M3 q3 y5 M5 q5 => next _ ⟨u, s, H, q5⟩))
  | 6, _ => AW.tableIn (off := 350) (tgt := 390) (dq rfl) (by decide) (by decide) (by decide) (by decide) (Exists.elim hM fun u h1 => Exists.elim h1 fun s h2 => Exists.elim h2 fun H hJ => lw_c6 hG (o1) (o2) (fun _ M' => LJ u s H M') (lh_94 hl0 hJ) (fun _ _ _ M' => LJ u s H M') (fun y3 M3 q3 => lm_200 hl0 q3) (fun y3 M3 q3 y5 M5 q5 => next _ ⟨u, s, H, q5⟩))
  | 7, _ => AW.tableIn (off := 390) (tgt := 430) (dq rfl) (by decide) (by decide) (by decide) (by decide) (Exists.elim hM fun u h1 => Exists.elim h1 fun s h2 => Exists.elim h2 fun H hJ => lw_c7 hG (o1) (o2) (fun _ M' => LJ u s H M') (lh_96 hl0 hJ) (fun _ _ _ M' => LJ u s H M') (fun y3 M3 q3 => lm_201 hl0 q3) (fun y3 M3 q3 y5 M5 q5 => next _ ⟨u, s, H, q5⟩))
  | 8, _ => AW.tableIn (off := 430) (tgt := 470) (dq rfl) (by decide) (by decide) (by decide) (by decide) (Exists.elim hM fun u h1 => Exists.elim h1 fun s h2 => Exists.elim h2 fun H hJ => lw_c8 hG (o1) (fun _ M' => LJ u s H M') (lh_98 hl0 hJ) (fun _ _ _ M' => LJ u s H M') (fun y2 M2 q2 => lm_202 hl0 q2) (fun y2 M2 q2 y4 M4 q4 => next _ ⟨u, s, H, q4⟩))
  | 9, _ => AW.tableIn (off := 458) (tgt := 498) (dq rfl) (by decide) (by decide) (by decide) (by decide) (Exists.elim hM fun u h1 => Exists.elim h1 fun s h2 => Exists.elim h2 fun H hJ => lw_c9 hG (o1) (fun _ M' => LJ u s H M') (lh_110 hl0 hJ) (fun _ _ _ M' => LJ u s H M') (fun y2 M2 q2 => lm_214 hl0 q2) (fun y2 M2 q2 y4 M4 q4 => next _ ⟨u, s, H, q4⟩))
  | 10, _ => AW.tableIn (off := 486) (tgt := 526) (dq rfl) (by decide) (by decide) (by decide) (by decide) (Exists.elim hM fun u h1 => Exists.elim h1 fun s h2 => Exists.elim h2 fun H hJ => lw_c10 hG (o1) (fun _ M' => LJ u s H M') (lh_113 hl0 hJ) (fun _ _ _ M' => LJ u s H M') (fun y2 M2 q2 => lm_215 hl0 q2) (fun y2 M2 q2 y4 M4 q4 => next _ ⟨u, s, H, q4⟩))
  | 11, _ => AW.tableIn (off := 514) (tgt := 554) (dq rfl) (by decide) (by decide) (by decide) (by decide) (Exists.elim hM fun u h1 => Exists.elim h1 fun s h2 => Exists.elim h2 fun H hJ => lw_c11 hG (o1) (fun _ M' => LJ u s H M') (lh_116 hl0 hJ) (fun _ _ _ M' => LJ u s H M') (fun y2 M2 q2 => lm_218 hl0 q2) (fun y2 M2 q2 y4 M4 q4 => next _ ⟨u, s, H, q4⟩))
  | 12, _ => AW.tableIn (off := 542) (tgt := 582) (dq rfl) (by decide) (by decide) (by decide) (by decide) (Exists.elim hM fun u h1 => Exists.elim h1 fun s h2 => Exists.elim h2 fun H hJ => lw_c12 hG (o1) (o2) (fun _ M' => LJ u s H M') (lm_27 hl0 hJ) (fun _ _ _ M' => LJ u s H M') (fun y3 M3 q3 => lm_219 hl0 q3) (fun y3 M3 q3 y5 M5 q5 => next _ ⟨u, s, H, q5⟩))
  | 13, _ => AW.tableIn (off := 579) (tgt := 619) (dq rfl) (by decide) (by decide) (by decide) (by decide) (Exists.elim hM fun u h1 => Exists.elim h1 fun s h2 => Exists.elim h2 fun H hJ => lw_c13 hG (o1) (fun _ M' => LJ u s H M') (lh_120 hl0 hJ) (fun _ _ _ M' => LJ u s H M') (fun y2 M2 q2 => lm_220 hl0 q2) (fun y2 M2 q2 y4 M4 q4 => next _ ⟨u, s, H, q4⟩))
  | 14, _ => AW.tableIn (off := 607) (tgt := 647) (dq rfl) (by decide) (by decide) (by decide) (by decide) (Exists.elim hM fun u h1 => Exists.elim h1 fun s h2 => Exists.elim h2 fun H hJ => lw_c14 hG (o1) (fun _ M' => LJ u s H M') (lh_123 hl0 hJ) (fun _ _ _ M' => LJ u s H M') (fun y2 M2 q2 => lm_222 hl0 q2) (fun y2 M2 q2 y4 M4 q4 => next _ ⟨u, s, H, q4⟩))
  | 15, _ => AW.tableIn (off := 635) (tgt := 675) (dq rfl) (by decide) (by decide) (by decide) (by decide) (Exists.elim hM fun u h1 => Exists.elim h1 fun s h2 => Exists.elim h2 fun H hJ => lw_c15 hG (o1) (fun h2 => o2) (fun _ M' => LJ u s H M') (fun h2 => lh_128 hl0 hJ ⟨by decide, by decide⟩) (fun _ _ _ M' => LJ u s H M') (fun h2 y4 M4 q4 h6 => lm_224 hl0 q4 ⟨by decide, by decide⟩) (fun h2 y4 M4 q4 h6 y7 M7 q7 => next _ ⟨u, s, H, q7⟩) (fun _ _ _ M' => LJ u s H M') (fun h2 y4 M4 q4 h6 => lm_224 hl0 q4 ⟨by decide, by decide⟩) (fun h2 y4 M4 q4 h6 y10 M10 q10 => next _ ⟨u, s, H, q10⟩) (fun h2 => o2) (fun _ M' => LJ u s H M') (fun h2 => lh_128 hl0 hJ ⟨by decide, by decide⟩) (fun _ _ _ M' => LJ u s H M') (fun h2 y14 M14 q14 h16 => lm_224 hl0 q14 ⟨by decide, by decide⟩) (fun h2 y14 M14 q14 h16 y17 M17 q17 => next _ ⟨u, s, H, q17⟩) (fun _ _ _ M' => LJ u s H M') (fun h2 y14 M14 q14 h16 => lm_224 hl0 q14 ⟨by decide, by decide⟩) (fun h2 y14 M14 q14 h16 y20 M20 q20 => next _ ⟨u, s, H, q20⟩))
  | 16, _ => AW.tableIn (off := 691) (tgt := 731) (dq rfl) (by decide) (by decide) (by decide) (by decide) (Exists.elim hM fun u h1 => Exists.elim h1 fun s h2 => Exists.elim h2 fun H hJ => lw_c16 hG (fun _ M' => LJ u s H M') (lm_30 hl0 hJ) (fun _ _ _ M' => LJ u s H M') (fun y1 M1 q1 => lm_227 hl0 q1) (fun y1 M1 q1 y3 M3 q3 => next _ ⟨u, s, H, q3⟩))
  | 17, _ => AW.tableIn (off := 704) (tgt := 744) (dq rfl) (by decide) (by decide) (by decide) (by decide) (Exists.elim hM fun u h1 => Exists.elim h1 fun s h2 => Exists.elim h2 fun H hJ => lw_c17 hG (o1) (o2) (fun _ M' => LJ u s H M') (lh_138 hl0 hJ) (fun _ _ _ M' => LJ u s H M') (fun y3 M3 q3 => lm_228 hl0 q3) (fun y3 M3 q3 y5 M5 q5 => next _ ⟨u, s, H, q5⟩))
  | 18, _ => AW.tableIn (off := 744) (tgt := 784) (dq rfl) (by decide) (by decide) (by decide) (by decide) (Exists.elim hM fun u h1 => Exists.elim h1 fun s h2 => Exists.elim h2 fun H hJ => lw_c18 hG (o1) (fun _ M' => LJ u s H M') (lh_143 hl0 hJ) (fun _ _ _ M' => LJ u s H M') (fun y2 M2 q2 => lm_230 hl0 q2) (fun y2 M2 q2 y4 M4 q4 => next _ ⟨u, s, H, q4⟩))
  | 19, _ => AW.tableIn (off := 772) (tgt := 812) (dq rfl) (by decide) (by decide) (by decide) (by decide) (Exists.elim hM fun u h1 => Exists.elim h1 fun s h2 => Exists.elim h2 fun H hJ => lw_c19 hG (o1) (fun _ M' => LJ u s H M') (lh_149 hl0 hJ) (fun _ _ _ M' => LJ u s H M') (fun y2 M2 q2 => lm_235 hl0 q2) (fun y2 M2 q2 y4 M4 q4 => next _ ⟨u, s, H, q4⟩))
  | 20, _ => AW.tableIn (off := 800) (tgt := 840) (dq rfl) (by decide) (by decide) (by decide) (by decide) (Exists.elim hM fun u h1 => Exists.elim h1 fun s h2 => Exists.elim h2 fun H hJ => lw_c20 hG (o1) (o2) (fun _ M' => LJ u s H M') (lh_151 hl0 hJ) (fun _ _ _ M' => LJ u s H M') (fun y3 M3 q3 => lm_236 hl0 q3) (fun y3 M3 q3 y5 M5 q5 => next _ ⟨u, s, H, q5⟩))
  | 21, _ => AW.tableIn (off := 840) (tgt := 880) (dq rfl) (by decide) (by decide) (by decide) (by decide) (law_c21 hl0 hG hM o1 o2 next)
  | 22, _ => AW.tableIn (off := 908) (tgt := 948) (dq rfl) (by decide) (by decide) (by decide) (by decide) (Exists.elim hM fun u h1 => Exists.elim h1 fun s h2 => Exists.elim h2 fun H hJ => lw_c22 hG (o1) (fun M' => LJ u s H M') (lm_33 hl0 hJ) (fun _ M' => LJ u s H M') (fun M2 q2 => lm_238 hl0 q2) (fun M2 q2 M4 q4 => next _ ⟨u, s, H, q4⟩))
  | 23, _ => AW.tableIn (off := 931) (tgt := 971) (dq rfl) (by decide) (by decide) (by decide) (by decide) (Exists.elim hM fun u h1 => Exists.elim h1 fun s h2 => Exists.elim h2 fun H hJ => lw_c23 hG (o1) (fun _ M' => LJ u s H M') (lh_155 hl0 hJ) (fun _ _ _ M' => LJ u s H M') (fun y2 M2 q2 => lm_239 hl0 q2) (fun y2 M2 q2 y4 M4 q4 => next _ ⟨u, s, H, q4⟩))
  | 24, _ => AW.tableIn (off := 959) (tgt := 999) (dq rfl) (by decide) (by decide) (by decide) (by decide) (Exists.elim hM fun u h1 => Exists.elim h1 fun s h2 => Exists.elim h2 fun H hJ => lw_c24 hG (o1) (o2) (fun _ M' => LJ u s H M') (lh_163 hl0 hJ) (fun _ _ _ M' => LJ u s H M') (fun y3 M3 q3 => lm_244 hl0 q3) (fun y3 M3 q3 y5 M5 q5 => next _ ⟨u, s, H, q5⟩))
  | 25, _ => AW.tableIn (off := 999) (tgt := 1039) (dq rfl) (by decide) (by decide) (by decide) (by decide) (Exists.elim hM fun u h1 => Exists.elim h1 fun s h2 => Exists.elim h2 fun H hJ => lw_c25 hG (o1) (fun _ M' => LJ u s H M') (lh_168 hl0 hJ) (fun _ _ _ M' => LJ u s H M') (fun y2 M2 q2 => lm_245 hl0 q2) (fun y2 M2 q2 y4 M4 q4 => next _ ⟨u, s, H, q4⟩))
  | 26, _ => AW.tableIn (off := 1027) (tgt := 1067) (dq rfl) (by decide) (by decide) (by decide) (by decide) (Exists.elim hM fun u h1 => Exists.elim h1 fun s h2 => Exists.elim h2 fun H hJ => lw_c26 hG (fun _ M' => LJ u s H M') (lm_35 hl0 hJ) (fun _ _ _ M' => LJ u s H M') (fun y1 M1 q1 => lm_246 hl0 q1) (fun y1 M1 q1 y3 M3 q3 => next _ ⟨u, s, H, q3⟩))
  | 27, _ => AW.tableIn (off := 1040) (tgt := 1080) (dq rfl) (by decide) (by decide) (by decide) (by decide) (Exists.elim hM fun u h1 => Exists.elim h1 fun s h2 => Exists.elim h2 fun H hJ => lw_c27 hG (fun _ M' => LJ u s H M') (lm_37 hl0 hJ) (fun _ _ _ M' => LJ u s H M') (fun y1 M1 q1 => lm_247 hl0 q1) (fun y1 M1 q1 y3 M3 q3 => next _ ⟨u, s, H, q3⟩))
  | 28, _ => AW.tableOut (tgt := 1093) (dq rfl) (by decide) (by decide) (AW.mono (Nat.le_add_right _ _) (Nat.le_add_right _ _) (next M hM))
  | 29, _ => AW.tableOut (tgt := 1093) (dq rfl) (by decide) (by decide) (AW.mono (Nat.le_add_right _ _) (Nat.le_add_right _ _) (next M hM))
  | 30, _ => AW.tableOut (tgt := 1093) (dq rfl) (by decide) (by decide) (AW.mono (Nat.le_add_right _ _) (Nat.le_add_right _ _) (next M hM))
  | 31, _ => AW.tableOut (tgt := 1093) (dq rfl) (by decide) (by decide) (AW.mono (Nat.le_add_right _ _) (Nat.le_add_right _ _) (next M hM))
  | j + 32, h => absurd h (by omega)
theorem law_loop (hl0 : l.1.stackTraces = false) (hG : ∀ G, l.2 G → scOk (some L, fun _ => none, [], []) xs G) (hL : L ≤ 3072) (hP : ∀ M', P (.inl (some (.int 1))) SHF M') : ∀ (d c : Nat) (M : aM), LI M → L < 6 * c + 6 + 6 * d → c + d ≤ 512 → AW l (pI pg 248) P (2 * d) (12 * d) 23 [(4, .int (nI (6 * c))), (0, .retAddr 0), (1, .ref 0), (2, .ref 58), (3, .ref 93)] [] SHF M := by
  have lt : ∀ c : Nat, c ≤ 512 → ((Int32.ofNat L - (Int8.ofInt 6).toInt32 < nI (6 * c)) ↔ L < 6 * c + 6) := by
    intro c hc
    rw [z_6, Int32.lt_iff_toInt_lt, show (Int32.ofNat L - nI 6).toInt = (L : Int) - 6 from pk_sub_toInt (by omega) (by decide), nI_toInt (by omega)]
    omega
  intro d
  induction d with
  | zero =>
    intro c M hM h1 h2
    have hlt := (lt c (by omega)).mpr (by omega)
    have no : ¬ ¬ (Int32.ofNat L - (Int8.ofInt 6).toInt32 < nI (6 * c)) := fun h => h hlt
    have k0 := lw_23z (kc := 0) (ks := 0) (P := P) (M := M) (i := 6 * c) hG (fun _ => hP M) (fun h => absurd h no) (fun h => absurd h no)
    exact k0
  | succ d ih =>
    intro c M hM h1 h2
    show AW l (pI pg 248) P (2 * d + 2) (12 * d + 12) 23 _ _ _ _
    refine lw_23 hG (fun _ => hP M) (fun h => ?_) (fun h => ?_)
    · rw [lt c (by omega)] at h
      exact vp_in_nI (by omega) (by omega)
    rw [lt c (by omega)] at h
    have h6 : 6 * c + 6 ≤ L := by omega
    have o1 : vp_in (nI (6 * c) + Int32.ofInt 1) L := by
      rw [show nI (6 * c) + Int32.ofInt 1 = nI (6 * c + 1) from nI_add _ 1]
      exact vp_in_nI (by omega) (by omega)
    have o2 : vp_in (nI (6 * c) + Int32.ofInt 2) L := by
      rw [show nI (6 * c) + Int32.ofInt 2 = nI (6 * c + 2) from nI_add _ 2]
      exact vp_in_nI (by omega) (by omega)
    have o3 : vp_in (nI (6 * c) + Int32.ofInt 3) L := by
      rw [show nI (6 * c) + Int32.ofInt 3 = nI (6 * c + 3) from nI_add _ 3]
      exact vp_in_nI (by omega) (by omega)
    have o4 : vp_in (nI (6 * c) + Int32.ofInt 4) L := by
      rw [show nI (6 * c) + Int32.ofInt 4 = nI (6 * c + 4) from nI_add _ 4]
      exact vp_in_nI (by omega) (by omega)
    have o5 : vp_in (nI (6 * c) + Int32.ofInt 5) L := by
      rw [show nI (6 * c) + Int32.ofInt 5 = nI (6 * c + 5) from nI_add _ 5]
      exact vp_in_nI (by omega) (by omega)
    have next : ∀ M', LI M' → AW l (pI pg 248) P (2 * d) (12 * d) 1093 [(4, .int (nI (6 * c))), (0, .retAddr 0), (1, .ref 0), (2, .ref 58), (3, .ref 93)] [] SHF M' := by
      intro M' hM'
      refine lw_E hG ?_
      rw [show nI (6 * c) + Int32.ofInt 6 = nI (6 * (c + 1)) from nI_add _ 6]
      exact ih (c + 1) M' hM' (by omega) (by omega)
    obtain ⟨j, hj, e⟩ := pk_andE (xs (nI (6 * c)).toNatClampNeg) (m := (Int8.ofInt 31).toInt32) 5 (by decide)
    rw [e]
    exact law_sw hl0 hG hM o1 o2 o3 o4 o5 next j hj
end LOOP
/-- the start: what the constructors leave -/
def rg0 (G : List (Nat × Nat × Value)) (e : Nat × (iI ⊕ List (Nat × iI))) : Bool := match e.2 with
  | .inl q => decide (q.1 ≤ 0) && (decide (0 ≤ q.2) && G.all (fun z => !Nat.beq z.1 e.1 || (match z.2.2 with
    | .int x => decide (q.1 ≤ x.toInt) && decide (x.toInt ≤ q.2)
    | _ => false)))
  | .inr F => F.all (fun f => match gk (.int 0) G e.1 f.1 with
    | .int x => decide (f.2.1 ≤ x.toInt) && decide (x.toInt ≤ f.2.2)
    | _ => false)
theorem gk_mem {α : Type} {z : α} : ∀ (G : List (Nat × Nat × α)) (a k : Nat), gk z G a k = z ∨ ∃ q ∈ G, q.1 = a ∧ q.2.2 = gk z G a k
  | [], _, _ => Or.inl rfl
  | q :: r, a, k => by
    unfold gk
    split
    · next h =>
        rw [Bool.and_eq_true] at h
        exact Or.inr ⟨q, List.mem_cons_self, Nat.eq_of_beq_eq_true h.1, rfl⟩
    · rcases gk_mem r a k with h | ⟨q', h1, h2⟩
      · exact Or.inl h
      · exact Or.inr ⟨q', List.mem_cons_of_mem _ h1, h2⟩
theorem rg0_ok {xs : Nat → Int32} {g : gM} {e : Nat × (iI ⊕ List (Nat × iI))} (h : rg0 g.1 e = true) : rgOk (den xs g) e := by
  unfold rg0 at h
  unfold rgOk
  split at h
  · next q hq =>
      rw [hq]
      simp only [Bool.and_eq_true, decide_eq_true_eq] at h
      obtain ⟨h1, h2, h3⟩ := h
      intro k
      show inI (iv xs (gk (.int 0) g.1 e.1 k)) q
      rcases gk_mem (z := (Value.int 0)) g.1 e.1 k with h | ⟨z, hz, hz1, hz2⟩
      · rw [h]
        exact ⟨by show q.1 ≤ (0 : Int32).toInt; rw [show (0 : Int32).toInt = 0 by decide]; exact h1, by show (0 : Int32).toInt ≤ q.2; rw [show (0 : Int32).toInt = 0 by decide]; exact h2⟩
      · have h4 := List.all_eq_true.mp h3 z hz
        rw [hz1, Nat.beq_refl, Bool.not_true, Bool.false_or] at h4
        rw [← hz2]
        split at h4
        · next x hx =>
            rw [hx]
            simp only [Bool.and_eq_true, decide_eq_true_eq] at h4
            exact h4
        · cases h4
  · next F hF =>
      rw [hF]
      intro f hf
      have h4 := List.all_eq_true.mp h f hf
      show inI (iv xs (gk (.int 0) g.1 e.1 f.1)) f.2
      split at h4
      · next x hx =>
          rw [hx]
          simp only [Bool.and_eq_true, decide_eq_true_eq] at h4
          exact h4
      · cases h4
theorem cell_0 (xs : Nat → Int32) {a k : Nat} {x : Int32} (h : gk (.int 0) LM0.1 a k = .int x) : (den xs LM0).1 a k = x := by
  show iv xs (gk (.int 0) LM0.1 a k) = x
  rw [h]
  rfl
theorem z_6a : ∀ k, k < 6 → gk (.int 0) LM0.1 7 k = .int 0 ∧ gk (.int 0) LM0.1 8 k = .int 0 := by decide +kernel
theorem z_8a : ∀ k, k < 8 → gk (.int 0) LM0.1 11 k = .int 0 := by decide +kernel
theorem z_48a : ∀ k, k < 48 → gk (.int 0) LM0.1 12 k = .int 0 := by decide +kernel
theorem LI_0 (xs : Nat → Int32) : LI (den xs LM0) := by
  refine ⟨fun _ => 0, 0, HS0, ⟨by decide, cell_0 xs (by decide +kernel), cell_0 xs (by decide +kernel), fun _ => Nat.le_of_ble_eq_true rfl, fun i hi => absurd hi (Nat.not_lt_zero _), fun i hi => absurd hi (Nat.not_lt_zero _)⟩, HI_0, Or.inl ⟨⟨fun e he => rg0_ok (List.all_eq_true.mp (show RR.1.all (rg0 LM0.1) = true by decide +kernel) e he), fun e he => ?_⟩, ?_⟩, ?_, ?_⟩
  · show gk 0 LM0.2.2 e.1 e.2.1 = e.2.2
    exact (show ∀ e ∈ RR.2, gk 0 LM0.2.2 e.1 e.2.1 = e.2.2 by decide +kernel) e he
  · exact cHo.of (pe := cell_0 xs (by decide +kernel)) (wo := cell_0 xs (by decide +kernel)) (te := cell_0 xs (by decide +kernel)) (fo := cell_0 xs (by decide +kernel)) (ho := fun i hi => absurd hi (Nat.not_lt_zero _)) (ch := fun i hi => absurd hi (Nat.not_lt_zero _)) (cd := fun i hi => cell_0 xs (z_6a i hi).1) (ml := fun i hi => cell_0 xs (z_6a i hi).2) (be := fun i hi => absurd hi (Nat.not_lt_zero _)) (le := fun i hi => absurd hi (Nat.not_lt_zero _)) (dr := fun i hi => cell_0 xs (z_8a i hi)) (sk := fun i hi => cell_0 xs (z_48a i hi)) (t0 := fun i hi => absurd hi (Nat.not_lt_zero _)) (t1 := fun i hi => absurd hi (Nat.not_lt_zero _)) (t2 := fun i hi => absurd hi (Nat.not_lt_zero _)) (t3 := fun i hi => absurd hi (Nat.not_lt_zero _))
  · exact ⟨cell_0 xs (by decide +kernel), cell_0 xs (by decide +kernel), cell_0 xs (by decide +kernel), cell_0 xs (by decide +kernel), fun i hi => absurd hi (Nat.not_lt_zero _), fun i hi => absurd hi (Nat.not_lt_zero _), fun i hi => absurd hi (Nat.not_lt_zero _), fun i hi => absurd hi (Nat.not_lt_zero _), fun i w hi => absurd hi (Nat.not_lt_zero _), fun k hk => absurd hk (Nat.not_lt_zero _)⟩
  · exact (cell_0 xs (x := Int32.ofInt (-1)) (by decide +kernel)).trans (cell_0 xs (x := Int32.ofInt (-1)) (by decide +kernel)).symm
/-- THE LAW, on a script of at most 3072 ints -/
theorem p23_law {l : Launch} {P : aP} {xs : Nat → Int32} {L : Nat} (hL : L ≤ 3072) (hl0 : l.stackTraces = false) (hP : ∀ sh M, P (.inl (some (.int 1))) sh M) : AW (l, fun G => G.2.2.2.2 = xs ∧ G.2.2.2.1 = L) (pI pg 248) P (1024 + 94) (6144 + 11823) 0 [(0, .retAddr 0)] [] (true, []) (den xs ([], [], [])) := by
  refine eqK_ok (sc := scN) pg_ok hl0 (fun G hG => ⟨hG.1, fun _ h => (by cases h), fun _ _ h => (by cases h), fun _ h => absurd h List.not_mem_nil, fun _ h => absurd h List.not_mem_nil⟩) p1_made ?_
  refine AW.shf ?_
  refine AW.drop (lv' := [(4, .int (nI (6 * 0))), (0, .retAddr 0), (1, .ref 0), (2, .ref 58), (3, .ref 93)]) (List.forall_mem_cons.mpr ⟨List.mem_of_getElem? (i := 0) rfl, List.forall_mem_cons.mpr ⟨List.mem_of_getElem? (i := 4) rfl, List.forall_mem_cons.mpr ⟨List.mem_of_getElem? (i := 3) rfl, List.forall_mem_cons.mpr ⟨List.mem_of_getElem? (i := 2) rfl, List.forall_mem_cons.mpr ⟨List.mem_of_getElem? (i := 1) rfl, fun _ h => absurd h List.not_mem_nil⟩⟩⟩⟩⟩) ?_
  exact law_loop (l := (l, fun G => G.2.2.2.2 = xs ∧ G.2.2.2.1 = L)) hl0 (fun G hG => ⟨hG.1, fun _ h => (by cases h; exact hG.2), fun _ _ h => (by cases h), fun _ h => absurd h List.not_mem_nil, fun _ h => absurd h List.not_mem_nil⟩) hL (fun M' => hP _ _) 512 0 _ (LI_0 xs) (by omega) (by omega)
