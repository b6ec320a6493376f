theorem hoC_of {H : HS} {M M' : aM} {W : sW} (h : hoC H M) (h22 : M'.2.2 = M.2.2) (hfr : ∀ a k, wrW W a k = false → M'.1 a k = M.1 a k) (hA : ∀ a ∈ W.1, ∃ q, wcA RR.1 a q = true ∧ ∀ k, inI (M'.1 a k) q) (hF : ∀ f ∈ W.2, ∃ q, wcF RR.1 f.1 f.2 q = true ∧ inI (M'.1 f.1 f.2) q) (hW : (W.1.all (fun b => !(Nat.ble 4 b && Nat.ble b 29)) && W.2.all (fun b => !(Nat.ble 4 b.1 && Nat.ble b.1 29))) = true) : hoC H M' := by
  have fr : ∀ a k, 4 ≤ a → a ≤ 29 → M'.1 a k = M.1 a k := fun a k h1 h2 => hfr a k (wr_p (fun b => Nat.ble 4 b && Nat.ble b 29) hW (by rw [Bool.and_eq_true]; exact ⟨Nat.ble_eq_true_of_le h1, Nat.ble_eq_true_of_le h2⟩))
  rcases h with ⟨h, hc⟩ | ⟨h, hc⟩
  · have := Jm_of h h22 hfr hA hF
    exact Or.inl ⟨⟨this.1, this.2.1⟩, cH_eq hc (fun a k h1 h2 => fr a k (by omega) (by omega))⟩
  · have := Jm_of (R := RRS) h h22 hfr hA hF
    exact Or.inr ⟨⟨this.1, this.2.1⟩, cH_eq hc (fun a k h1 h2 => fr a k (by omega) (by omega))⟩
/-- the byte that a feed lays -/
noncomputable def ubF (u : Nat → Nat) (s : Nat) (f : Nat → Int32) (i : Nat) : Nat := if i < s then u i else Classical.choose (byt_b (f (i - s)) ((i - s) % 4))
theorem ubF_lt {u : Nat → Nat} {s : Nat} {f : Nat → Int32} (hu : ∀ i, u i < 256) (i : Nat) : ubF u s f i < 256 := by
  unfold ubF
  split
  · exact hu i
  · exact (Classical.choose_spec (byt_b (f (i - s)) ((i - s) % 4))).1
theorem ubF_lo {u : Nat → Nat} {s : Nat} {f : Nat → Int32} {i : Nat} (h : i < s) : ubF u s f i = u i := if_pos h
theorem ubF_B {u : Nat → Nat} {s : Nat} {f : Nat → Int32} {i : Nat} (h : ¬ i < s) : tbB (f (i - s)) ((i - s) % 4) = sB (ubF u s f i) := by
  unfold ubF
  rw [if_neg h]
  exact (Classical.choose_spec (byt_b (f (i - s)) ((i - s) % 4))).2.1
theorem ubF_I {u : Nat → Nat} {s : Nat} {f : Nat → Int32} {i : Nat} (h : ¬ i < s) : tbI (f (i - s)) ((i - s) % 4) = nI (ubF u s f i) := by
  unfold ubF
  rw [if_neg h]
  exact (Classical.choose_spec (byt_b (f (i - s)) ((i - s) % 4))).2.2
theorem J_3 {H : HS} {M : aM} (h : hoC H M) (k : Nat) : inI (M.1 3 k) ((-128), 127) := (hoC_J h).elim (fun h => rgA_ok h.1 (show rgA RR.1 3 = some ((-128), 127) by decide +kernel) k) (fun h => rgA_ok h.1 (show rgA RRS.1 3 = some ((-128), 127) by decide +kernel) k)
theorem J_65 {H : HS} {M : aM} (h : hoC H M) (k : Nat) : inI (M.1 65 k) (0, 255) := (hoC_J h).elim (fun h => rgA_ok h.1 (show rgA RR.1 65 = some (0, 255) by decide +kernel) k) (fun h => rgA_ok h.1 (show rgA RRS.1 65 = some (0, 255) by decide +kernel) k)
theorem n800 {v : Nat} (h : v ≤ 800) : inI (nI v) (0, 800) := by
  show (0 : Int) ≤ (nI v).toInt ∧ (nI v).toInt ≤ 800
  rw [nI_toInt (by omega)]
  omega
/-- a feed of the class -/
theorem feed_C {u : Nat → Nat} {s : Nat} {H : HS} {M M6 : aM} {f : Nat → Int32} {y : Int32} (h : LJ u s H M) (e6 : M6.2.2 = M.2.2) (q : Q24 s f M y M6) : hoC H M6 ∧ (∀ a k, 4 ≤ a → M6.1 a k = M.1 a k) ∧ M6.1 0 13 = M.1 0 13 ∧ ((s ≤ 780 ∧ M6.1 2 1 = nI (s + 20) ∧ ∀ i, i < s + 20 → M6.1 3 i = sB (ubF u s f i)) ∨ (780 < s ∧ M6.1 2 1 = nI s ∧ ∀ i, i < s → M6.1 3 i = sB (u i))) := by
  obtain ⟨⟨s8, h21, h58, hu, hb, hr⟩, hI, hC, hm, hf⟩ := h
  rcases q with ⟨q1, q2, q3, q4, q5, q7⟩ | ⟨q1, q2, rfl⟩
  · refine ⟨hoC_of (W := ([3], [(2, 1)])) hC e6 (fun a k hw => q7 a k ((wr_no hw).1 3 (by decide)) (fun e => (wr_no hw).2 (2, 1) (by decide) e)) (fun a ha => ?_) (fun g hg => ?_) (by decide +kernel), fun a k ha => q7 a k (by omega) (fun e => by omega), q7 0 13 (by decide) (by decide), Or.inl ⟨q1, q3, fun i hi => ?_⟩⟩
    · have ha : a = 3 := by simpa using ha
      subst ha
      refine ⟨((-128), 127), by decide +kernel, fun k => ?_⟩
      by_cases e : k < s ∨ s + 20 ≤ k
      · rw [q5 k e]
        exact J_3 hC k
      · have e2 := q4 (k - s) (by omega)
        rw [show s + (k - s) = k by omega] at e2
        rw [e2]
        exact nar_b _
    · have hg : g = (2, 1) := by simpa using hg
      subst hg
      refine ⟨(0, 800), by decide +kernel, ?_⟩
      show inI (M6.1 2 1) (0, 800)
      rw [q3]
      exact n800 (by omega)
    · by_cases e : i < s
      · rw [q5 i (Or.inl e), ubF_lo e]
        exact hb i e
      · have e2 := q4 (i - s) (by omega)
        rw [show s + (i - s) = i by omega] at e2
        rw [e2]
        exact ubF_B e
  · exact ⟨hC, fun _ _ _ => rfl, rfl, Or.inr ⟨q1, h21, hb⟩⟩
/-- a feed of the reference -/
theorem feed_M {u : Nat → Nat} {s : Nat} {H : HS} {M6 M8 : aM} {f : Nat → Int32} {y : Int32} (s8 : s ≤ 800) (hr : ∀ i, i < s → M6.1 65 i = nI (u i)) (hC : hoC H M6) (e8 : M8.2.2 = M6.2.2) (q : Q171 s f M6 y M8) : hoC H M8 ∧ (∀ a k, a ≠ 65 → (a = 58 → k ≠ 12 ∧ k ≠ 0) → M8.1 a k = M6.1 a k) ∧ ((s ≤ 780 ∧ M8.1 58 12 = nI (s + 20) ∧ ∀ i, i < s + 20 → M8.1 65 i = nI (ubF u s f i)) ∨ (780 < s ∧ M8.1 58 12 = nI s ∧ ∀ i, i < s → M8.1 65 i = nI (u i))) := by
  obtain ⟨q1, q2, q3⟩ := q
  refine ⟨hoC_of (W := ([65], [(58, 12), (58, 0)])) hC e8 (fun a k hw => q1 a k ((wr_no hw).1 65 (by decide)) (fun e => ⟨(wr_no hw).2 (58, 12) (by decide) e, (wr_no hw).2 (58, 0) (by decide) e⟩)) (fun a ha => ?_) (fun g hg => ?_) (by decide +kernel), q1, ?_⟩
  · have ha : a = 65 := by simpa using ha
    subst ha
    refine ⟨(0, 255), by decide +kernel, fun k => ?_⟩
    rcases q3 with ⟨-, -, -, q4, q5⟩ | ⟨-, -, -, q5⟩
    · by_cases e : k < s ∨ s + 20 ≤ k
      · rw [q5 k e]
        exact J_65 hC k
      · have e2 := q4 (k - s) (by omega)
        rw [show s + (k - s) = k by omega] at e2
        rw [e2]
        exact tbI_in _ _
    · rw [q5 k]
      exact J_65 hC k
  · have hg : g = (58, 12) ∨ g = (58, 0) := by simpa using hg
    rcases hg with rfl | rfl
    · refine ⟨(0, 800), by decide +kernel, ?_⟩
      show inI (M8.1 58 12) (0, 800)
      rcases q3 with ⟨q4, -, q5, -⟩ | ⟨q4, -, q5, -⟩
      · rw [q5]
        exact n800 (by omega)
      · rw [q5]
        exact n800 (by omega)
    · refine ⟨(0, 2), by decide +kernel, ?_⟩
      show (0 : Int) ≤ (M8.1 58 0).toInt ∧ (M8.1 58 0).toInt ≤ 2
      rw [q2]
      decide
  · rcases q3 with ⟨q4, q5, q6, q7, q8⟩ | ⟨q4, q5, q6, q8⟩
    · refine Or.inl ⟨q4, q6, fun i hi => ?_⟩
      by_cases e : i < s
      · rw [q8 i (Or.inl e), ubF_lo e]
        exact hr i e
      · have e2 := q7 (i - s) (by omega)
        rw [show s + (i - s) = i by omega] at e2
        rw [e2]
        exact ubF_I e
    · exact Or.inr ⟨q4, q6, fun i hi => (q8 i).trans (hr i hi)⟩
/-- what both feeds leave -/
theorem feed_LI {u : Nat → Nat} {s : Nat} {H : HS} {M M6 M8 : aM} {f : Nat → Int32} {y y' : Int32} (h : LJ u s H M) (e6 : M6.2.2 = M.2.2) (q6 : Q24 s f M y M6) (e8 : M8.2.2 = M6.2.2) (q8 : Q171 s f M6 y' M8) : LI M8 := by
  obtain ⟨a1, a2, a3, a4⟩ := feed_C h e6 q6
  obtain ⟨⟨s8, h21, h58, hu, hb, hr⟩, hI, hC, hm, hf⟩ := h
  obtain ⟨b1, b2, b3⟩ := feed_M (u := u) s8 (fun i hi => (a2 65 i (by decide)).trans (hr i hi)) a1 e8 q8
  have hm8 : mHo H M8 := mH_eq (fun k k1 k4 => (b2 58 k (by decide) (fun _ => by omega)).trans (a2 58 k (by decide))) (fun a k c1 c2 => (b2 a k (by omega) (fun e => by omega)).trans (a2 a k (by omega))) hm
  have hf8 : M8.1 0 13 = M8.1 58 14 := by
    rw [b2 0 13 (by decide) (by decide), b2 58 14 (by decide) (by decide), a3, a2 58 14 (by decide)]
    exact hf
  rcases a4 with ⟨c1, c2, c3⟩ | ⟨c1, c2, c3⟩ <;> rcases b3 with ⟨d1, d2, d3⟩ | ⟨d1, d2, d3⟩
  · exact ⟨ubF u s f, s + 20, H, ⟨by omega, (b2 2 1 (by decide) (by decide)).trans c2, d2, ubF_lt hu, fun i hi => (b2 3 i (by decide) (fun e => absurd e (by decide))).trans (c3 i hi), d3⟩, hI, b1, hm8, hf8⟩
  · omega
  · omega
  · exact ⟨u, s, H, ⟨s8, (b2 2 1 (by decide) (by decide)).trans c2, d2, hu, fun i hi => (b2 3 i (by decide) (fun e => absurd e (by decide))).trans (c3 i hi), d3⟩, hI, b1, hm8, hf8⟩
theorem thr_c {l : aL} (hl0 : l.1.stackTraces = false) {M : aM} : AC l (pI pg 171) (gcI (fun y M' => M.1 58 0 = y ∧ M = M')) 0 0 [.ref 58] SHF M := by
  refine fw_of hl0 ⟨by decide +kernel, by decide +kernel, by decide +kernel⟩ rfl ?_
  exact thr_0 ⟨rfl, _, rfl, rfl, rfl⟩
theorem cmp_eq {x y : Int64} (h : x = y) : lg_cmp x y = 0 := by
  subst h
  simp [lg_cmp]
/-- house of both: the answers, and what is left -/
def QH2 (u : Nat → Nat) (s : Nat) (x y2 : Int32) (M2 : aM) : Int32 → aM → Prop := fun y4 M4 => M4.1 58 0 = y2 ∧ LI M4 ∧ (y2 = 0 → lgV M4 93 0 = y4.toInt64)
theorem hou2_c {l : aL} (hl0 : l.1.stackTraces = false) {M M2 : aM} {u : Nat → Nat} {s : Nat} {H0 : HS} (h : LJ u s H0 M) {x y2 : Int32} (q2 : QHH u H0 x M y2 M2) : AC l (pI pg 174) (gcI (QH2 u s x y2 M2)) 0 0 [.ref 58, .int x] SHF M2 := by
  obtain ⟨⟨s8, h21, h58, hu, hb, hr⟩, hI, hC, hm, hf⟩ := h
  rcases q2 with ⟨k1, rfl, k3⟩ | ⟨k0, y, k1, k2, k3, k4, k5, k6, k7⟩
  · have hx : x < 0 ∨ M2.1 58 12 < x := by
      rcases k3 with k | k
      · exact Or.inl k
      · refine Or.inr ?_
        rw [h58, ← h21]
        rw [Int32.le_iff_toInt_le] at k
        rw [Int32.lt_iff_toInt_lt]
        omega
    refine fcgI hl0 (mhx_c hl0 hC hx) (fun y4 M4 e4 q4 => ⟨q4.1.trans (by rw [k1]; rfl), ⟨u, s, H0, ⟨s8, (q4.2.2 2 1 (by decide)).trans h21, (q4.2.2 58 12 (by decide)).trans h58, hu, fun i hi => (q4.2.2 3 i (fun e => absurd e (by decide))).trans (hb i hi), fun i hi => (q4.2.2 65 i (fun e => absurd e (by decide))).trans (hr i hi)⟩, hI, q4.2.1, mH_eq (fun k k1 k4 => q4.2.2 58 k (fun _ => by omega)) (fun a k a1 a2 => q4.2.2 a k (fun e => by omega)) hm, ?_⟩, fun e => ?_⟩)
    · rw [q4.2.2 0 13 (by decide), q4.2.2 58 14 (by decide)]
      exact hf
    · rw [k1] at e
      exact absurd e (by decide)
  · have hn : x.toInt.toNat ≤ s := by
      rw [h21, Int32.le_iff_toInt_le, nI_toInt (by omega)] at k3
      omega
    have hx : x = nI x.toInt.toNat := nI_self (by
      rw [Int32.lt_iff_toInt_lt] at k2
      have : (0 : Int32).toInt = 0 := by decide
      omega)
    generalize x.toInt.toNat = n at *
    subst hx
    have hm2 : mHo H0 M2 := mH_eq (fun k k1 k4 => k5 58 k (by decide) (by decide)) (fun a k a1 a2 => k5 a k (by omega) (by omega)) hm
    have t0 : ∀ (M4 : aM), M4.1 2 1 = 0 → M4.1 58 12 = 0 → TP u 0 M4 := fun M4 t1 t2 => ⟨by decide, t1, t2, hu, fun i hi => absurd hi (Nat.not_lt_zero _), fun i hi => absurd hi (Nat.not_lt_zero _)⟩
    cases hp : parS u n (n + 1) HS0 0 with
    | inl f =>
      obtain ⟨g1, g2, g3, g4, g5⟩ := k6 f hp
      refine fcgI hl0 (mho_c hl0 g5 hI hm2 s8 hn ((k5 58 12 (by decide) (by decide)).trans h58) hu (fun i hi => (k5 65 i (by decide) (by decide)).trans (hr i hi))) (fun y4 M4 e4 q4 => ?_)
      obtain ⟨r1, r2, r3, r4, r5, r6, -⟩ := q4
      obtain ⟨w1, w2, w3, w4, w5⟩ := r6 f hp
      refine ⟨r1.trans (by rw [k0]; rfl), ⟨u, 0, H0, t0 M4 ((r4 2 1 (by decide)).trans k4) r2, hI, r5, w5, ?_⟩, fun _ => ?_⟩
      · rw [r4 0 13 (by decide), g2, w2]
      · rw [r3, k1, g1, w1]
    | inr H =>
      obtain ⟨g1, g2, g3, g4, g5⟩ := k7 H hp
      refine fcgI hl0 (mho_c hl0 g5 hI hm2 s8 hn ((k5 58 12 (by decide) (by decide)).trans h58) hu (fun i hi => (k5 65 i (by decide) (by decide)).trans (hr i hi))) (fun y4 M4 e4 q4 => ?_)
      obtain ⟨r1, r2, r3, r4, r5, -, r6⟩ := q4
      obtain ⟨w1, w2, w3, w4, w5⟩ := r6 H hp
      refine ⟨r1.trans (by rw [k0]; rfl), ⟨u, 0, H, t0 M4 ((r4 2 1 (by decide)).trans k4) r2, w4, r5, w5, ?_⟩, fun _ => ?_⟩
      · rw [r4 0 13 (by decide), g2, w2]
      · rw [r3, k1, g1, w1]
/-- house of both, with calendar and refusals -/
theorem i64_inj {y z : Int32} (h : y.toInt64 = z.toInt64) : y = z := by
  apply Int32.toInt_inj.mp
  rw [← Int32.toInt_toInt64, ← Int32.toInt_toInt64, h]
def QCl (M : aM) (k : Int32) (M' : aM) : Prop := (k = Int32.ofInt 1 ∧ kp [(49, 0), (49, 1), (53, 0), (53, 1)] M M') ∨ (k = Int32.ofInt 0 ∧ ∃ y : Int32, lgV M' 93 0 = y.toInt64 ∧ ((y = 0 ∧ M'.1 49 0 = 0 ∧ M'.1 49 1 = 0 ∧ M'.1 53 0 = 0) ∨ (¬ y = 0 ∧ kp [(49, 0), (49, 1), (53, 0), (53, 1)] M M')))
theorem kp_of {M M' : aM} (h1 : ∀ k, M'.1 49 k = M.1 49 k) (h2 : ∀ k, M'.1 53 k = M.1 53 k) : kp [(49, 0), (49, 1), (53, 0), (53, 1)] M M' := List.forall_mem_cons.mpr ⟨h1 0, List.forall_mem_cons.mpr ⟨h1 1, List.forall_mem_cons.mpr ⟨h2 0, List.forall_mem_cons.mpr ⟨h2 1, fun _ h => absurd h List.not_mem_nil⟩⟩⟩⟩
def PC39 (M : aM) : aP := fun r sh' M' => sh' = SHF ∧ ((r = .inr "java/lang/IllegalArgumentException" ∧ M' = M) ∨ ∃ y : Int32, r = .inl (some (.int y)) ∧ ((y = 0 ∧ M'.1 49 0 = 0 ∧ M'.1 49 1 = 0 ∧ M'.1 53 0 = 0) ∨ (¬ y = 0 ∧ (∀ k, M'.1 49 k = M.1 49 k) ∧ ∀ k, M'.1 53 k = M.1 53 k)))
theorem houC_k {l : aL} (hl0 : l.1.stackTraces = false) {M : aM} {u : Nat → Nat} {s : Nat} {H : HS} (h : LJ u s H M) {x : Int32} : ∀ hh, iT (pI pg 38) = tableOf hh → ACH l (pI pg 38) hh (gcI (fun k M' => QHH u H x M k M' ∧ QCl M k M')) 2 12 [.ref 0, .int x, .ref 93] SHF M := fun hh hT => by
  have c : AC l (pI pg 39) (PC39 M) 2 12 [.ref 0, .int x] SHF M := (hoC_J h.2.2.1).elim (fun h => cal39a hl0 h) (fun h => cal39b hl0 h)
  refine ACH.joinG (hg_38 hl0 c (fun v sh' M' hp => ?_) (fun X sh' M' hp => ?_) hh hT) (help_house hl0 h hh hT) (fun k M' M1 q2 q1 hs => ⟨q2, ?_⟩)
  · obtain ⟨p1, ⟨p2, -⟩ | ⟨y, p2, -⟩⟩ := hp
    · cases p2
    · cases p2
      exact ⟨p1, y, rfl⟩
  · obtain ⟨p1, ⟨p2, -⟩ | ⟨y, p2, -⟩⟩ := hp
    · cases p2
      exact ⟨p1, rfl⟩
    · cases p2
  · rcases q1 with ⟨k1, -, ⟨-, rfl⟩ | ⟨y, p2, -⟩⟩ | ⟨k0, y, M0, ⟨-, ⟨p2, -⟩ | ⟨y', p2, p3⟩⟩, rfl⟩
    · exact Or.inl ⟨k1, kp_sme (by decide) (fun _ _ => rfl) hs⟩
    · cases p2
    · cases p2
    · cases p2
      refine Or.inr ⟨k0, y, (sme_aJ hs (i := 93) (k := 0) (n := 1) rfl (by decide)).symm.trans asL_at, ?_⟩
      rcases p3 with ⟨p4, p5, p6, p7⟩ | ⟨p4, p5, p6⟩
      · exact Or.inl ⟨p4, (sme_Z hs (49, 0) (by decide)).trans p5, (sme_Z hs (49, 1) (by decide)).trans p6, (sme_Z hs (53, 0) (by decide)).trans p7⟩
      · exact Or.inr ⟨p4, kp_sme (by decide) (M1 := asL M0 93 0 y.toInt64) (kp_of p5 p6) hs⟩
def QRl (R : Flt ⊕ HS) (M2 : aM) (k : Int32) (M4 : aM) : Prop := (k = Int32.ofInt 1 ∧ kp kZ M2 M4) ∨ (k = Int32.ofInt 0 ∧ (∀ f, R = .inl f → kp [(49, 0), (49, 1), (53, 0), (53, 1), (57, 0), (57, 1), (57, 2), (58, 51), (58, 57), (58, 58), (66, 1), (66, 2)] M2 M4 ∧ M4.1 66 0 = M2.1 66 0 + Int32.ofInt 1) ∧ ∀ H, R = .inr H → kp [(49, 0), (49, 1), (53, 0), (53, 1), (57, 0), (57, 1), (57, 2), (58, 58), (66, 0), (66, 1), (66, 2)] M2 M4 ∧ M4.1 58 51 = Int32.ofInt (-1) ∧ M4.1 58 57 = 0)
theorem houM_k {l : aL} (hl0 : l.1.stackTraces = false) {M M2 : aM} {u : Nat → Nat} {s : Nat} {H0 : HS} (h : LJ u s H0 M) {x y2 : Int32} (q2 : QHH u H0 x M y2 M2) : AC l (pI pg 174) (gcI (fun y4 M4 => QH2 u s x y2 M2 y4 M4 ∧ QRl (parS u x.toInt.toNat (x.toInt.toNat + 1) HS0 0) M2 y2 M4)) 0 0 [.ref 58, .int x] SHF M2 := by
  have j2 : JX M2 := by
    rcases q2 with ⟨-, rfl, -⟩ | ⟨-, y, -, -, -, -, -, k6, k7⟩
    · exact hoC_J h.2.2.1
    · cases hp : parS u x.toInt.toNat (x.toInt.toNat + 1) HS0 0 with
      | inl f => exact hoC_J (k6 f hp).2.2.2.2
      | inr H => exact hoC_J (k7 H hp).2.2.2.2
  have hR := JX_RM j2
  have c2 := hou2_c (l := l) hl0 h q2
  obtain ⟨⟨s8, h21, h58, hu, hb, hr⟩, hI, hC, hm, hf⟩ := h
  rcases q2 with ⟨k1, rfl, k3⟩ | ⟨k0, y, k1, k2, k3, k4, k5, k6, k7⟩
  · have hx : x < 0 ∨ M2.1 58 12 < x := by
      rcases k3 with k | k
      · exact Or.inl k
      · refine Or.inr ?_
        rw [h58, ← h21]
        rw [Int32.le_iff_toInt_le] at k
        rw [Int32.lt_iff_toInt_lt]
        omega
    exact AC.joinG (fcgI hl0 (hom_o hl0 hR hx) (fun z M' _ q => q)) c2 (fun y4 M4 M1 q4 q1 hs => ⟨q4, Or.inl ⟨k1, kp_sme (fun _ h => h) (by obtain ⟨-, rfl⟩ := q1; exact (show ∀ e ∈ kZ, (aset (aset M2 58 0 (.int (Int32.ofInt 0))) 58 0 (.int (Int32.ofInt 1))).1 e.1 e.2 = M2.1 e.1 e.2 from List.forall_mem_cons.mpr ⟨rfl, List.forall_mem_cons.mpr ⟨rfl, List.forall_mem_cons.mpr ⟨rfl, List.forall_mem_cons.mpr ⟨rfl, List.forall_mem_cons.mpr ⟨rfl, List.forall_mem_cons.mpr ⟨rfl, List.forall_mem_cons.mpr ⟨rfl, List.forall_mem_cons.mpr ⟨rfl, List.forall_mem_cons.mpr ⟨rfl, List.forall_mem_cons.mpr ⟨rfl, List.forall_mem_cons.mpr ⟨rfl, List.forall_mem_cons.mpr ⟨rfl, List.forall_mem_cons.mpr ⟨rfl, fun _ h => absurd h List.not_mem_nil⟩⟩⟩⟩⟩⟩⟩⟩⟩⟩⟩⟩⟩)) hs⟩⟩)
  · have hn : x.toInt.toNat ≤ s := by
      rw [h21, Int32.le_iff_toInt_le, nI_toInt (by omega)] at k3
      omega
    have hx : x = nI x.toInt.toNat := nI_self (by
      rw [Int32.lt_iff_toInt_lt] at k2
      have : (0 : Int32).toInt = 0 := by decide
      omega)
    have c1 := hom_i (l := l) (M := M2) hl0 hR s8 hn ((k5 58 12 (by decide) (by decide)).trans h58) hu (fun i hi => (k5 65 i (by decide) (by decide)).trans (hr i hi))
    rw [← hx] at c1
    refine AC.joinG (fcgI hl0 c1 (fun z M' _ q => q)) c2 (fun y4 M4 M1 q4 q1 hs => ⟨q4, Or.inr ⟨k0, fun f hf => ⟨kp_sme (by decide) ?_ hs, ?_⟩, fun H hH => ⟨kp_sme (by decide) ?_ hs, ?_, ?_⟩⟩⟩)
    · obtain ⟨-, -, -, -, g3, g4, g5⟩ := q1.2.2.1 f hf
      exact List.forall_mem_cons.mpr ⟨(g5 49 0 (by decide) (by decide)).trans rfl, List.forall_mem_cons.mpr ⟨(g5 49 1 (by decide) (by decide)).trans rfl, List.forall_mem_cons.mpr ⟨(g5 53 0 (by decide) (by decide)).trans rfl, List.forall_mem_cons.mpr ⟨(g5 53 1 (by decide) (by decide)).trans rfl, List.forall_mem_cons.mpr ⟨(g5 57 0 (by decide) (by decide)).trans rfl, List.forall_mem_cons.mpr ⟨(g5 57 1 (by decide) (by decide)).trans rfl, List.forall_mem_cons.mpr ⟨(g5 57 2 (by decide) (by decide)).trans rfl, List.forall_mem_cons.mpr ⟨(g5 58 51 (by decide) (by decide)).trans rfl, List.forall_mem_cons.mpr ⟨(g5 58 57 (by decide) (by decide)).trans rfl, List.forall_mem_cons.mpr ⟨(g5 58 58 (by decide) (by decide)).trans rfl, List.forall_mem_cons.mpr ⟨g4 1 (by decide), List.forall_mem_cons.mpr ⟨g4 2 (by decide), fun _ h => absurd h List.not_mem_nil⟩⟩⟩⟩⟩⟩⟩⟩⟩⟩⟩⟩
    · obtain ⟨-, -, -, -, g3, g4, g5⟩ := q1.2.2.1 f hf
      exact (sme_Z hs (66, 0) (by decide)).trans g3
    · obtain ⟨-, -, -, -, -, -, -, -, g5⟩ := q1.2.2.2 H hH
      exact List.forall_mem_cons.mpr ⟨(g5 49 0 (by decide) (by decide) (by decide)).trans rfl, List.forall_mem_cons.mpr ⟨(g5 49 1 (by decide) (by decide) (by decide)).trans rfl, List.forall_mem_cons.mpr ⟨(g5 53 0 (by decide) (by decide) (by decide)).trans rfl, List.forall_mem_cons.mpr ⟨(g5 53 1 (by decide) (by decide) (by decide)).trans rfl, List.forall_mem_cons.mpr ⟨(g5 57 0 (by decide) (by decide) (by decide)).trans rfl, List.forall_mem_cons.mpr ⟨(g5 57 1 (by decide) (by decide) (by decide)).trans rfl, List.forall_mem_cons.mpr ⟨(g5 57 2 (by decide) (by decide) (by decide)).trans rfl, List.forall_mem_cons.mpr ⟨(g5 58 58 (by decide) (by decide) (by decide)).trans rfl, List.forall_mem_cons.mpr ⟨(g5 66 0 (by decide) (by decide) (by decide)).trans rfl, List.forall_mem_cons.mpr ⟨(g5 66 1 (by decide) (by decide) (by decide)).trans rfl, List.forall_mem_cons.mpr ⟨(g5 66 2 (by decide) (by decide) (by decide)).trans rfl, fun _ h => absurd h List.not_mem_nil⟩⟩⟩⟩⟩⟩⟩⟩⟩⟩⟩
    · obtain ⟨-, -, -, -, -, -, g6, -⟩ := q1.2.2.2 H hH
      exact (sme_Z hs (58, 51) (by decide)).trans g6
    · obtain ⟨-, -, -, -, -, -, -, g7, -⟩ := q1.2.2.2 H hH
      exact (sme_Z hs (58, 57) (by decide)).trans g7
theorem houK {M M2 M4 : aM} {u : Nat → Nat} {H0 : HS} {a b : Option Nat} {x k : Int32} (hK : CK a b M) (hr : RF M) (q2 : QHH u H0 x M k M2) (q3 : QCl M k M2) (q4 : LI M4) (q5 : QRl (parS u x.toInt.toNat (x.toInt.toNat + 1) HS0 0) M2 k M4) : LK M4 := by
  obtain ⟨u', s', H', l4⟩ := q4
  have n10 : ¬ (Int32.ofInt 1 : Int32) = Int32.ofInt 0 := by decide
  rcases q2 with ⟨k1, rfl, -⟩ | ⟨k0, y, e1, -, -, -, k5, k6, k7⟩
  · rcases q5 with ⟨-, q5⟩ | ⟨q5, -⟩
    · exact ⟨u', s', H', a, b, l4, CK_eq hK (kp_sub q5 (by decide)), RF_eq hr (kp_sub q5 (by decide))⟩
    · exact absurd (k1.symm.trans q5) n10
  · rcases q5 with ⟨q5, -⟩ | ⟨-, q6, q7⟩
    · exact absurd (q5.symm.trans k0) n10
    rcases q3 with ⟨q3, -⟩ | ⟨-, y', e2, q3⟩
    · exact absurd (q3.symm.trans k0) n10
    have ey : y' = y := i64_inj (e2.symm.trans e1)
    subst ey
    cases hp : parS u x.toInt.toNat (x.toInt.toNat + 1) HS0 0 with
    | inl f =>
      obtain ⟨g1, g2, g3, g4, -⟩ := k6 f hp
      have pf := parS_f hp
      have ny : ¬ y' = 0 := by rw [g1]; exact nI_z pf.1 pf.2
      have q3 := (q3.resolve_left (fun h => ny h.1)).2
      obtain ⟨w1, w2⟩ := q6 f hp
      refine ⟨u', s', H', a, b, l4, CK_eq hK ?_, fun j j3 => ?_⟩
      · exact List.forall_mem_cons.mpr ⟨(w1 (49, 0) (by decide)).trans (q3 (49, 0) (by decide)), List.forall_mem_cons.mpr ⟨(w1 (49, 1) (by decide)).trans (q3 (49, 1) (by decide)), List.forall_mem_cons.mpr ⟨(w1 (53, 0) (by decide)).trans (q3 (53, 0) (by decide)), List.forall_mem_cons.mpr ⟨(w1 (53, 1) (by decide)).trans (q3 (53, 1) (by decide)), List.forall_mem_cons.mpr ⟨(w1 (58, 51) (by decide)).trans (k5 58 51 (by decide) (by decide)), List.forall_mem_cons.mpr ⟨(w1 (58, 57) (by decide)).trans (k5 58 57 (by decide) (by decide)), List.forall_mem_cons.mpr ⟨(w1 (58, 58) (by decide)).trans (k5 58 58 (by decide) (by decide)), fun _ h => absurd h List.not_mem_nil⟩⟩⟩⟩⟩⟩⟩
      · rcases k3 j3 with e | e | e
        · subst e
          rw [w1 (57, 0) (by decide), w2]
          show M2.1 57 0 = M2.1 66 0 + Int32.ofInt 1
          rw [g3, k5 66 0 (by decide) (by decide), hr 0 (by decide)]
        · subst e
          rw [w1 (57, 1) (by decide), w1 (66, 1) (by decide)]
          show M2.1 57 1 = M2.1 66 1
          rw [g4 1 (by decide), k5 66 1 (by decide) (by decide), hr 1 (by decide)]
        · subst e
          rw [w1 (57, 2) (by decide), w1 (66, 2) (by decide)]
          show M2.1 57 2 = M2.1 66 2
          rw [g4 2 (by decide), k5 66 2 (by decide) (by decide), hr 2 (by decide)]
    | inr H =>
      obtain ⟨g1, g2, g3, -, -⟩ := k7 H hp
      have zy : y' = 0 := g1
      have q3 := q3.resolve_right (fun h => h.1 zy)
      obtain ⟨w1, w2, w3⟩ := q7 H hp
      refine ⟨u', s', H', none, none, l4, ⟨⟨(w1 (49, 0) (by decide)).trans q3.2.1, (w1 (49, 1) (by decide)).trans q3.2.2.1⟩, (w1 (53, 0) (by decide)).trans q3.2.2.2, w2, w3⟩, fun j j3 => ?_⟩
      rcases k3 j3 with e | e | e
      · subst e
        rw [w1 (57, 0) (by decide), w1 (66, 0) (by decide)]
        show M2.1 57 0 = M2.1 66 0
        rw [g3 0, k5 66 0 (by decide) (by decide), hr 0 (by decide)]
      · subst e
        rw [w1 (57, 1) (by decide), w1 (66, 1) (by decide)]
        show M2.1 57 1 = M2.1 66 1
        rw [g3 1, k5 66 1 (by decide) (by decide), hr 1 (by decide)]
      · subst e
        rw [w1 (57, 2) (by decide), w1 (66, 2) (by decide)]
        show M2.1 57 2 = M2.1 66 2
        rw [g3 2, k5 66 2 (by decide) (by decide), hr 2 (by decide)]
theorem QIm_eq {y z : Int32} {o : Bool} (h1 : QIm y o) (h2 : QIm z o) : y = z := by
  rcases h1 with ⟨a, b⟩ | ⟨a, b⟩ <;> rcases h2 with ⟨c, d⟩ | ⟨c, d⟩
  · rw [b, d]
  · rw [a] at c
    cases c
  · rw [a] at c
    cases c
  · rw [b, d]
section LOOP
variable {l : aL} {P : aP} {kc ks i L : Nat} {xs : Nat → Int32} {M : aM}
theorem law_c0 (hl0 : l.1.stackTraces = false) (hG : ∀ G, l.2 G → scOk (some L, fun _ => none, [], []) xs G) (hM : LK M) (o1 : vp_in (nI i + Int32.ofInt 1) L) (o2 : vp_in (nI i + Int32.ofInt 2) L) (o3 : vp_in (nI i + Int32.ofInt 3) L) (o4 : vp_in (nI i + Int32.ofInt 4) L) (o5 : vp_in (nI i + Int32.ofInt 5) L)
    (next : ∀ M', LK M' → AW l (pI pg 248) P kc ks 1093 [(4, .int (nI i)), (0, .retAddr 0), (1, .ref 0), (2, .ref 58), (3, .ref 93)] [] SHF M') : AW l (pI pg 248) P (kc + 2) (ks + 12) 168 [(4, .int (nI i)), (0, .retAddr 0), (1, .ref 0), (2, .ref 58), (3, .ref 93)] [] SHF M := by
  obtain ⟨u, s, H, a, b, hJ, hK, hr⟩ := hM
  have h58 : ∀ {M6 : aM} {f : Nat → Int32} {y : Int32}, M6.2.2 = M.2.2 → Q24 s f M y M6 → M6.1 58 12 = nI s := fun {M6 f y} e6 q6 => ((feed_C hJ e6 q6).2.1 58 12 (by decide)).trans hJ.1.2.2.1
  have jx : ∀ {M6 : aM} {f : Nat → Int32} {y : Int32}, M6.2.2 = M.2.2 → Q24 s f M y M6 → JX M6 := fun {M6 f y} e6 q6 => hoC_J (feed_C hJ e6 q6).1
  refine lw_c0 hG o1 o2 o3 o4 o5 (fun y M' => M'.2.2 = M.2.2 ∧ Q24 s (fdV (xs (nI i + Int32.ofInt 1).toNatClampNeg) (xs (nI i + Int32.ofInt 2).toNatClampNeg) (xs (nI i + Int32.ofInt 3).toNatClampNeg) (xs (nI i + Int32.ofInt 4).toNatClampNeg) (xs (nI i + Int32.ofInt 5).toNatClampNeg)) M y M') (fcgI hl0 (c24 hl0 (JX_RC (hoC_J hJ.2.2.1)) hJ.1.1 hJ.1.2.1) (fun y M' e6 q6 => ⟨e6, q6⟩)) (fun _ M6 y M8 => M8.2.2 = M6.2.2 ∧ Q171 s (fdV (xs (nI i + Int32.ofInt 1).toNatClampNeg) (xs (nI i + Int32.ofInt 2).toNatClampNeg) (xs (nI i + Int32.ofInt 3).toNatClampNeg) (xs (nI i + Int32.ofInt 4).toNatClampNeg) (xs (nI i + Int32.ofInt 5).toNatClampNeg)) M6 y M8) (fun y M6 q6 => fcgI hl0 (c171 hl0 (JX_RM (jx q6.1 q6.2)) hJ.1.1 (h58 q6.1 q6.2)) (fun y M' e8 q8 => ⟨e8, q8⟩)) (fun y6 M6 q6 y8 M8 q8 => next M8 ?_)
  obtain ⟨u', s', H', l8⟩ := feed_LI hJ q6.1 q6.2 q8.1 q8.2
  have f6 := (feed_C hJ q6.1 q6.2).2.1
  have f8 := q8.2.1
  have k8 : kp kZ M M8 := List.forall_mem_cons.mpr ⟨(f8 49 0 (by decide) (by decide)).trans (f6 49 0 (by decide)), List.forall_mem_cons.mpr ⟨(f8 49 1 (by decide) (by decide)).trans (f6 49 1 (by decide)), List.forall_mem_cons.mpr ⟨(f8 53 0 (by decide) (by decide)).trans (f6 53 0 (by decide)), List.forall_mem_cons.mpr ⟨(f8 53 1 (by decide) (by decide)).trans (f6 53 1 (by decide)), List.forall_mem_cons.mpr ⟨(f8 57 0 (by decide) (by decide)).trans (f6 57 0 (by decide)), List.forall_mem_cons.mpr ⟨(f8 57 1 (by decide) (by decide)).trans (f6 57 1 (by decide)), List.forall_mem_cons.mpr ⟨(f8 57 2 (by decide) (by decide)).trans (f6 57 2 (by decide)), List.forall_mem_cons.mpr ⟨(f8 58 51 (by decide) (by decide)).trans (f6 58 51 (by decide)), List.forall_mem_cons.mpr ⟨(f8 58 57 (by decide) (by decide)).trans (f6 58 57 (by decide)), List.forall_mem_cons.mpr ⟨(f8 58 58 (by decide) (by decide)).trans (f6 58 58 (by decide)), List.forall_mem_cons.mpr ⟨(f8 66 0 (by decide) (by decide)).trans (f6 66 0 (by decide)), List.forall_mem_cons.mpr ⟨(f8 66 1 (by decide) (by decide)).trans (f6 66 1 (by decide)), List.forall_mem_cons.mpr ⟨(f8 66 2 (by decide) (by decide)).trans (f6 66 2 (by decide)), fun _ h => absurd h List.not_mem_nil⟩⟩⟩⟩⟩⟩⟩⟩⟩⟩⟩⟩⟩
  exact ⟨u', s', H', a, b, l8, CK_eq hK (kp_sub k8 (by decide)), RF_eq hr (kp_sub k8 (by decide))⟩
theorem law_c1 (hl0 : l.1.stackTraces = false) (hG : ∀ G, l.2 G → scOk (some L, fun _ => none, [], []) xs G) (hM : LK M) (o1 : vp_in (nI i + Int32.ofInt 1) L)
    (next : ∀ M', LK M' → AW l (pI pg 248) P kc ks 1093 [(4, .int (nI i)), (0, .retAddr 0), (1, .ref 0), (2, .ref 58), (3, .ref 93)] [] SHF M') : AW l (pI pg 248) P (kc + 2) (ks + 12) 241 [(4, .int (nI i)), (0, .retAddr 0), (1, .ref 0), (2, .ref 58), (3, .ref 93)] [] SHF M := by
  obtain ⟨u, s, H, a, b, hJ, hK, hr⟩ := hM
  exact lw_c1 hG o1 (fun k M' => QHH u H (xs (nI i + Int32.ofInt 1).toNatClampNeg) M k M' ∧ QCl M k M') (houC_k hl0 hJ) (fun y2 M2 y4 M4 => QH2 u s (xs (nI i + Int32.ofInt 1).toNatClampNeg) y2 M2 y4 M4 ∧ QRl (parS u (xs (nI i + Int32.ofInt 1).toNatClampNeg).toInt.toNat ((xs (nI i + Int32.ofInt 1).toNatClampNeg).toInt.toNat + 1) HS0 0) M2 y2 M4) (fun y2 M2 q2 => houM_k hl0 hJ q2.1) (fun y2 M2 q2 y4 M4 q4 => next M4 (houK hK hr q2.1 q2.2 q4.1.2.1 q4.2))
theorem QT_sme {c : Nat} {B : Prop} {z : Int32} {M M1 M' : aM} (h : QT c B M z M1) (hs : ∀ k, k < 3 → M'.1 c k = M1.1 c k) : (B ∧ z = Int32.ofInt 1 ∧ ∀ k, k < 3 → M'.1 c k = M.1 c k) ∨ (¬ B ∧ z = Int32.ofInt 0 ∧ M'.1 c 1 = M.1 c 1 + Int32.ofInt 1 ∧ ∀ k, k < 3 → k ≠ 1 → M'.1 c k = M.1 c k) := h.imp (fun h => ⟨h.1, h.2.1, fun k k3 => (hs k k3).trans (h.2.2 k)⟩) (fun h => ⟨h.1, h.2.1, (hs 1 (by decide)).trans h.2.2.1, fun k k3 k1 => (hs k k3).trans (h.2.2.2 k k1)⟩)
theorem s57 {M1 M : aM} (h : smeM M1 M) : ∀ k, k < 3 → M.1 57 k = M1.1 57 k := fun k hk => (sme_aI h (i := 57) (n := 3) (ty := .int) rfl rfl hk).symm
theorem s66 {M1 M : aM} (h : smeM M1 M) : ∀ k, k < 3 → M.1 66 k = M1.1 66 k := fun k hk => (sme_aI h (i := 66) (n := 3) (ty := .int) rfl rfl hk).symm
theorem law_c12 (hl0 : l.1.stackTraces = false) (hG : ∀ G, l.2 G → scOk (some L, fun _ => none, [], []) xs G) (hM : LK M) (o1 : vp_in (nI i + Int32.ofInt 1) L) (o2 : vp_in (nI i + Int32.ofInt 2) L)
    (next : ∀ M', LK M' → AW l (pI pg 248) P kc ks 1093 [(4, .int (nI i)), (0, .retAddr 0), (1, .ref 0), (2, .ref 58), (3, .ref 93)] [] SHF M') : AW l (pI pg 248) P (kc + 2) (ks + 12) 582 [(4, .int (nI i)), (0, .retAddr 0), (1, .ref 0), (2, .ref 58), (3, .ref 93)] [] SHF M := by
  obtain ⟨u, s, H, a, b, hJ, hK, hr⟩ := hM
  refine lw_c12 hG o1 o2 (fun z M' => (LJ u s H M' ∧ kp [(49, 0), (49, 1), (53, 0), (53, 1), (58, 51), (58, 57), (58, 58), (66, 0), (66, 1), (66, 2)] M M') ∧ ((telP H (xs (nI i + Int32.ofInt 1).toNatClampNeg) (xs (nI i + Int32.ofInt 2).toNatClampNeg) ∧ z = Int32.ofInt 1 ∧ ∀ k, k < 3 → M'.1 57 k = M.1 57 k) ∨ (¬ telP H (xs (nI i + Int32.ofInt 1).toNatClampNeg) (xs (nI i + Int32.ofInt 2).toNatClampNeg) ∧ z = Int32.ofInt 0 ∧ M'.1 57 1 = M.1 57 1 + Int32.ofInt 1 ∧ ∀ k, k < 3 → k ≠ 1 → M'.1 57 k = M.1 57 k))) (AC.joinG (fcgI hl0 (tel_c hl0 hJ.2.1 hJ.2.2.1) (fun z M' _ q => q)) (ls_27 hl0 hJ) (fun z M' M1 q2 q1 hs => ⟨q2, QT_sme q1 (s57 hs)⟩)) (fun _ M2 z M' => (LJ u s H M' ∧ kp [(49, 0), (49, 1), (53, 0), (53, 1), (57, 0), (57, 1), (57, 2), (58, 51), (58, 57), (58, 58)] M2 M') ∧ ((telP H (xs (nI i + Int32.ofInt 1).toNatClampNeg) (xs (nI i + Int32.ofInt 2).toNatClampNeg) ∧ z = Int32.ofInt 1 ∧ ∀ k, k < 3 → M'.1 66 k = M2.1 66 k) ∨ (¬ telP H (xs (nI i + Int32.ofInt 1).toNatClampNeg) (xs (nI i + Int32.ofInt 2).toNatClampNeg) ∧ z = Int32.ofInt 0 ∧ M'.1 66 1 = M2.1 66 1 + Int32.ofInt 1 ∧ ∀ k, k < 3 → k ≠ 1 → M'.1 66 k = M2.1 66 k))) (fun y2 M2 q2 => AC.joinG (fcgI hl0 (mtl_c hl0 (LJ_RM q2.1.1) q2.1.1.2.1 q2.1.1.2.2.2.1) (fun z M' _ q => q)) (ls_219 hl0 q2.1.1) (fun z M' M1 q3 q1 hs => ⟨q3, QT_sme q1 (s66 hs)⟩)) (fun y2 M2 q2 y4 M4 q4 => next M4 ⟨u, s, H, a, b, q4.1.1, ?_, fun j j3 => ?_⟩)
  · exact CK_eq (CK_eq hK (kp_sub q2.1.2 (by decide))) (kp_sub q4.1.2 (by decide))
  · have e4 : M4.1 57 j = M2.1 57 j := by
      rcases k3 j3 with e | e | e
      · subst e
        exact q4.1.2 (57, 0) (by decide)
      · subst e
        exact q4.1.2 (57, 1) (by decide)
      · subst e
        exact q4.1.2 (57, 2) (by decide)
    have e2 : M2.1 66 j = M.1 66 j := by
      rcases k3 j3 with e | e | e
      · subst e
        exact q2.1.2 (66, 0) (by decide)
      · subst e
        exact q2.1.2 (66, 1) (by decide)
      · subst e
        exact q2.1.2 (66, 2) (by decide)
    rw [e4]
    rcases q2.2 with ⟨t1, -, c1⟩ | ⟨t1, -, c1, c2⟩ <;> rcases q4.2 with ⟨t2, -, d1⟩ | ⟨t2, -, d1, d2⟩
    · rw [c1 j j3, d1 j j3, e2]
      exact hr j j3
    · exact absurd t1 t2
    · exact absurd t2 t1
    · by_cases ej : j = 1
      · subst ej
        rw [c1, d1, e2, hr 1 j3]
      · rw [c2 j j3 ej, d2 j j3 ej, e2]
        exact hr j j3
theorem law_c22 (hl0 : l.1.stackTraces = false) (hG : ∀ G, l.2 G → scOk (some L, fun _ => none, [], []) xs G) (hM : LK M) (o1 : vp_in (nI i + Int32.ofInt 1) L)
    (next : ∀ M', LK M' → AW l (pI pg 248) P kc ks 1093 [(4, .int (nI i)), (0, .retAddr 0), (1, .ref 0), (2, .ref 58), (3, .ref 93)] [] SHF M') : AW l (pI pg 248) P (kc + 2) (ks + 12) 920 [(4, .int (nI i)), (0, .retAddr 0), (1, .ref 0), (2, .ref 58), (3, .ref 93)] [] SHF M := by
  obtain ⟨u, s, H, a, b, hJ, hK, hr⟩ := hM
  refine lw_c22 hG o1 (fun M' => (LJ u s H M' ∧ kp [(53, 0), (53, 1), (57, 0), (57, 1), (57, 2), (58, 51), (58, 57), (58, 58), (66, 0), (66, 1), (66, 2)] M M') ∧ M'.1 49 0 = Int32.ofInt 1 ∧ M'.1 49 1 = Int32.ofInt 0) (AC.joinGV (hJ.2.2.1.elim (fun h => fcgV hl0 (bega_c hl0 h.1) (fun _ q => q)) (fun h => fcgV hl0 (begb_c hl0 h.1) (fun _ q => q))) (ls_33 hl0 hJ) (fun M' M1 q2 q1 hs => ⟨q2, (sme_Z hs (49, 0) (by decide)).trans q1.1, (sme_Z hs (49, 1) (by decide)).trans q1.2.1⟩)) (fun M2 M' => (LJ u s H M' ∧ kp [(49, 0), (49, 1), (53, 0), (53, 1), (57, 0), (57, 1), (57, 2), (58, 57), (58, 58), (66, 0), (66, 1), (66, 2)] M2 M') ∧ M'.1 58 51 = Int32.ofInt 0) (fun M2 q2 => AC.joinGV (fcgV hl0 (mbe_c hl0 (LJ_RM q2.1.1) q2.1.1.2.1 q2.1.1.2.2.2.1) (fun _ q => q)) (ls_238 hl0 q2.1.1) (fun M' M1 q3 q1 hs => ⟨q3, (sme_Z hs (58, 51) (by decide)).trans q1.1⟩)) (fun M2 q2 M4 q4 => next M4 ⟨u, s, H, some 0, b, q4.1.1, ⟨⟨?_, ?_, by decide⟩, ?_, ⟨q4.2, by decide⟩, ?_⟩, ?_⟩)
  · exact (q4.1.2 (49, 0) (by decide)).trans q2.2.1
  · exact (q4.1.2 (49, 1) (by decide)).trans q2.2.2
  · exact cKb_eq hK.2.1 ((q4.1.2 (53, 0) (by decide)).trans (q2.1.2 (53, 0) (by decide))) ((q4.1.2 (53, 1) (by decide)).trans (q2.1.2 (53, 1) (by decide)))
  · exact mKb_eq hK.2.2.2 ((q4.1.2 (58, 57) (by decide)).trans (q2.1.2 (58, 57) (by decide))) ((q4.1.2 (58, 58) (by decide)).trans (q2.1.2 (58, 58) (by decide)))
  · exact RF_eq (RF_eq hr (kp_sub q2.1.2 (by decide))) (kp_sub q4.1.2 (by decide))
/-- on of the class, behind its helper -/
def QOc (a : Option Nat) (x : Int32) (M M' : aM) : Prop := (onO a x = none ∧ (∀ k, k < 3 → M'.1 57 k = M.1 57 k) ∧ M'.1 49 1 = M.1 49 1) ∨ (onO a x = some none ∧ M'.1 49 1 = M.1 49 1 ∧ M'.1 57 2 = M.1 57 2 + Int32.ofInt 1 ∧ ∀ k, k < 3 → k ≠ 2 → M'.1 57 k = M.1 57 k) ∨ ∃ m, onO a x = some (some m) ∧ m ≤ 200 ∧ M'.1 49 1 = nI m ∧ ∀ k, k < 3 → M'.1 57 k = M.1 57 k
/-- on of the class, what its helper tells -/
def QOk (a : Option Nat) (x : Int32) (k : Int32) (M' : aM) : Prop := (onO a x = none ∧ k = Int32.ofInt 1) ∨ (onO a x = some none ∧ k = Int32.ofInt 0 ∧ lgV M' 93 0 = (Int32.ofInt (-1)).toInt64) ∨ ∃ m, onO a x = some (some m) ∧ k = Int32.ofInt 0 ∧ lgV M' 93 0 = (nI m).toInt64
theorem onC_k {l : aL} (hl0 : l.1.stackTraces = false) {M : aM} {u : Nat → Nat} {s : Nat} {H : HS} {a : Option Nat} (h : LJ u s H M) (ha : cKa a M) {x : Int32} : ∀ hh, iT (pI pg 155) = tableOf hh → ACH l (pI pg 155) hh (gcI (fun k M' => (LJ u s H M' ∧ kp [(49, 0), (53, 0), (53, 1), (58, 51), (58, 57), (58, 58), (66, 0), (66, 1), (66, 2)] M M') ∧ QOc a x M M' ∧ QOk a x k M')) 2 12 [.ref 0, .int x, .ref 93] SHF M := fun hh hT => by
  have c : AC l (pI pg 156) (PON a x M) 2 12 [.ref 0, .int x] SHF M := (hoC_J h.2.2.1).elim (fun h => onna_c hl0 h ha) (fun h => onnb_c hl0 h ha)
  refine ACH.joinG (hg_155 hl0 c (fun v sh' M' hp => ?_) (fun X sh' M' hp => ?_) hh hT) (ls_155 hl0 h hh hT) (fun k M' M1 q2 q1 hs => ⟨q2, ?_⟩)
  · obtain ⟨p1, ⟨-, p2, -⟩ | ⟨-, p2, -⟩ | ⟨m, -, p2, -⟩⟩ := hp
    · cases p2
    · cases p2
      exact ⟨p1, _, rfl⟩
    · cases p2
      exact ⟨p1, _, rfl⟩
  · obtain ⟨p1, ⟨-, p2, -⟩ | ⟨-, p2, -⟩ | ⟨m, -, p2, -⟩⟩ := hp
    · cases p2
      exact ⟨p1, rfl⟩
    · cases p2
    · cases p2
  · have e49 := sme_Z hs (49, 1) (by decide)
    have e57 := s57 hs
    rcases q1 with ⟨k1, -, ⟨p1, -, rfl⟩ | ⟨-, p2, -⟩ | ⟨m, -, p2, -⟩⟩ | ⟨k0, y, M0, ⟨-, ⟨-, p2, -⟩ | ⟨p1, p2, rfl⟩ | ⟨m, p1, p2, p3, -, p4, -, p5⟩⟩, rfl⟩
    · exact ⟨Or.inl ⟨p1, e57, e49⟩, Or.inl ⟨p1, k1⟩⟩
    · cases p2
    · cases p2
    · cases p2
    · cases p2
      exact ⟨Or.inr (Or.inl ⟨p1, e49, e57 2 (by decide), fun k k3 k2 => (e57 k k3).trans (show (aset M 57 2 (.int (M.1 57 2 + Int32.ofInt 1))).1 57 k = M.1 57 k by rw [set_1, if_pos rfl, if_neg k2])⟩), Or.inr (Or.inl ⟨p1, k0, (sme_aJ hs (i := 93) (k := 0) (n := 1) rfl (by decide)).symm.trans asL_at⟩)⟩
    · cases p2
      exact ⟨Or.inr (Or.inr ⟨m, p1, p3, e49.trans p4, fun k k3 => (e57 k k3).trans (p5 k)⟩), Or.inr (Or.inr ⟨m, p1, k0, (sme_aJ hs (i := 93) (k := 0) (n := 1) rfl (by decide)).symm.trans asL_at⟩)⟩
theorem law_c23 (hl0 : l.1.stackTraces = false) (hG : ∀ G, l.2 G → scOk (some L, fun _ => none, [], []) xs G) (hM : LK M) (o1 : vp_in (nI i + Int32.ofInt 1) L)
    (next : ∀ M', LK M' → AW l (pI pg 248) P kc ks 1093 [(4, .int (nI i)), (0, .retAddr 0), (1, .ref 0), (2, .ref 58), (3, .ref 93)] [] SHF M') : AW l (pI pg 248) P (kc + 2) (ks + 12) 943 [(4, .int (nI i)), (0, .retAddr 0), (1, .ref 0), (2, .ref 58), (3, .ref 93)] [] SHF M := by
  obtain ⟨u, s, H, a, b, hJ, hK, hr⟩ := hM
  have key : ∀ (k : Int32) (M2 : aM), ((LJ u s H M2 ∧ kp [(49, 0), (53, 0), (53, 1), (58, 51), (58, 57), (58, 58), (66, 0), (66, 1), (66, 2)] M M2) ∧ QOc a (xs (nI i + Int32.ofInt 1).toNatClampNeg) M M2 ∧ QOk a (xs (nI i + Int32.ofInt 1).toNatClampNeg) k M2) → ∀ (z : Int32) (M4 : aM), ((LJ u s H M4 ∧ kp [(49, 0), (49, 1), (53, 0), (53, 1), (57, 0), (57, 1), (57, 2), (58, 57), (58, 58), (93, 0), (93, 1)] M2 M4) ∧ ∃ M1, QMon a (xs (nI i + Int32.ofInt 1).toNatClampNeg) M2 z M1 ∧ smeM M1 M4) → LK M4 := by
    intro y2 M2 q2 y4 M4 q4
    obtain ⟨⟨l2, p2⟩, q2, -⟩ := q2
    obtain ⟨⟨l4, p4⟩, M1, q4, hs⟩ := q4
    have e51 := sme_Z hs (58, 51) (by decide)
    have e66 := s66 hs
    have f57 : ∀ k, k < 3 → M4.1 57 k = M2.1 57 k := fun k h3 => by
      rcases k3 h3 with e | e | e
      · subst e
        exact p4 (57, 0) (by decide)
      · subst e
        exact p4 (57, 1) (by decide)
      · subst e
        exact p4 (57, 2) (by decide)
    have f66 : ∀ k, k < 3 → M2.1 66 k = M.1 66 k := fun k h3 => by
      rcases k3 h3 with e | e | e
      · subst e
        exact p2 (66, 0) (by decide)
      · subst e
        exact p2 (66, 1) (by decide)
      · subst e
        exact p2 (66, 2) (by decide)
    have hcb : cKb b M4 := cKb_eq (cKb_eq hK.2.1 (p2 (53, 0) (by decide)) (p2 (53, 1) (by decide))) (p4 (53, 0) (by decide)) (p4 (53, 1) (by decide))
    have hmb : mKb b M4 := mKb_eq (mKb_eq hK.2.2.2 (p2 (58, 57) (by decide)) (p2 (58, 58) (by decide))) (p4 (58, 57) (by decide)) (p4 (58, 58) (by decide))
    have k0 : M4.1 49 0 = M.1 49 0 := (p4 (49, 0) (by decide)).trans (p2 (49, 0) (by decide))
    have k1 : M4.1 49 1 = M2.1 49 1 := p4 (49, 1) (by decide)
    have w2 : M2.1 58 51 = M.1 58 51 := p2 (58, 51) (by decide)
    obtain ⟨-, -, q4⟩ := q4
    rcases q2 with ⟨t1, c1, c2⟩ | ⟨t1, c2, c3, c4⟩ | ⟨m, t1, c1, c2, c3⟩ <;> rcases q4 with ⟨t2, -, d2, d3⟩ | ⟨t2, -, -, d2, d3, d4⟩ | ⟨m', t2, d1, -, -, d2, d3⟩ <;> rw [t1] at t2 <;> cases t2
    · refine ⟨u, s, H, a, b, l4, ⟨cKa_eq hK.1 k0 (k1.trans c2), hcb, mKa_eq hK.2.2.1 (e51.trans (d2.trans w2)), hmb⟩, fun j j3 => ?_⟩
      rw [f57 j j3, c1 j j3, e66 j j3, d3 j, f66 j j3]
      exact hr j j3
    · refine ⟨u, s, H, a, b, l4, ⟨cKa_eq hK.1 k0 (k1.trans c2), hcb, mKa_eq hK.2.2.1 (e51.trans (d2.trans w2)), hmb⟩, fun j j3 => ?_⟩
      rw [f57 j j3, e66 j j3]
      by_cases ej : j = 2
      · subst ej
        rw [c3, d3, f66 2 j3, hr 2 j3]
      · rw [c4 j j3 ej, d4 j ej, f66 j j3]
        exact hr j j3
    · refine ⟨u, s, H, some m, b, l4, ⟨⟨?_, k1.trans c2, c1⟩, hcb, ⟨e51.trans d2, c1⟩, hmb⟩, fun j j3 => ?_⟩
      · rw [k0]
        cases a with
        | none =>
          exfalso
          by_cases hx : inN 61 (xs (nI i + Int32.ofInt 1).toNatClampNeg)
          · rw [onO, if_pos hx] at t1
            have t2 : (none : Option Nat) = some m := Option.some.inj t1
            cases t2
          · rw [onO, if_neg hx] at t1
            cases t1
        | some n => exact hK.1.1
      · rw [f57 j j3, c3 j j3, e66 j j3, d3 j, f66 j j3]
        exact hr j j3
  have ans : ∀ (k : Int32) (M2 : aM), ((LJ u s H M2 ∧ kp [(49, 0), (53, 0), (53, 1), (58, 51), (58, 57), (58, 58), (66, 0), (66, 1), (66, 2)] M M2) ∧ QOc a (xs (nI i + Int32.ofInt 1).toNatClampNeg) M M2 ∧ QOk a (xs (nI i + Int32.ofInt 1).toNatClampNeg) k M2) → ∀ (z : Int32) (M4 : aM), ((LJ u s H M4 ∧ kp [(49, 0), (49, 1), (53, 0), (53, 1), (57, 0), (57, 1), (57, 2), (58, 57), (58, 58), (93, 0), (93, 1)] M2 M4) ∧ ∃ M1, QMon a (xs (nI i + Int32.ofInt 1).toNatClampNeg) M2 z M1 ∧ smeM M1 M4) → M4.1 58 0 = k ∧ (k = 0 → lgV M4 93 0 = z.toInt64) := by
    intro y2 M2 q2 y4 M4 q4
    obtain ⟨-, -, q2⟩ := q2
    obtain ⟨⟨-, p4⟩, M1, ⟨-, -, q4⟩, hs⟩ := q4
    have e0 : M4.1 58 0 = M1.1 58 0 := (sme_fI hs (i := 58) (ci := 10) (k := 0) rfl rfl (by decide) rfl).symm
    have eL : lgV M4 93 0 = lgV M2 93 0 := lgV_eq (k := 0) (p4 (93, 0) (by decide)) (p4 (93, 1) (by decide))
    rcases q2 with ⟨t1, k1⟩ | ⟨t1, k1, g⟩ | ⟨m, t1, k1, g⟩ <;> rcases q4 with ⟨t2, d1, -⟩ | ⟨t2, d1, d2, -⟩ | ⟨m', t2, -, d1, d2, -⟩ <;> rw [t1] at t2 <;> cases t2
    · exact ⟨e0.trans (d1.trans k1.symm), fun h => absurd (k1.symm.trans h) (by decide)⟩
    · exact ⟨e0.trans (d1.trans k1.symm), fun _ => eL.trans (g.trans (congrArg Int32.toInt64 d2.symm))⟩
    · exact ⟨e0.trans (d1.trans k1.symm), fun _ => eL.trans (g.trans (congrArg Int32.toInt64 d2.symm))⟩
  refine lw_c23 hG o1 (fun k M' => (LJ u s H M' ∧ kp [(49, 0), (53, 0), (53, 1), (58, 51), (58, 57), (58, 58), (66, 0), (66, 1), (66, 2)] M M') ∧ QOc a (xs (nI i + Int32.ofInt 1).toNatClampNeg) M M' ∧ QOk a (xs (nI i + Int32.ofInt 1).toNatClampNeg) k M') (onC_k hl0 hJ hK.1) (fun _ M2 z M' => (LJ u s H M' ∧ kp [(49, 0), (49, 1), (53, 0), (53, 1), (57, 0), (57, 1), (57, 2), (58, 57), (58, 58), (93, 0), (93, 1)] M2 M') ∧ ∃ M1, QMon a (xs (nI i + Int32.ofInt 1).toNatClampNeg) M2 z M1 ∧ smeM M1 M') (fun y2 M2 q2 => AC.joinG (fcgI hl0 (show AC l (pI pg 239) (fcI M2 (QMon a (xs (nI i + Int32.ofInt 1).toNatClampNeg) M2)) 0 0 [.ref 58, .int (xs (nI i + Int32.ofInt 1).toNatClampNeg)] SHF M2 from (hoC_J q2.1.1.2.2.1).elim (fun h => mon_c hl0 (week_okw hl0) (by decide +kernel) h (LJ_RM q2.1.1) (mKa_eq hK.2.2.1 (q2.1.2 (58, 51) (by decide)))) (fun h => mon_c hl0 (week_okv hl0) (by decide +kernel) h (LJ_RM q2.1.1) (mKa_eq hK.2.2.1 (q2.1.2 (58, 51) (by decide))))) (fun z M' _ q => q)) (ls_239 hl0 q2.1.1) (fun z M' M1 q3 q1 hs => ⟨q3, M1, q1, hs⟩)) (fun _ _ _ M4 y M' => M4.1 58 0 = y ∧ M4 = M') (fun y2 M2 q2 y4 M4 q4 => thr_c hl0) (fun y2 M2 q2 y4 M4 q4 y6 M6 q6 h8 h9 => ?_) (fun _ _ _ _ _ _ _ _ _ _ _ => vp_in_nI (n := 0) (by decide) (by decide)) (fun y2 M2 q2 y4 M4 q4 y6 M6 q6 h8 h9 h12 => ?_) (fun y2 M2 q2 y4 M4 q4 y6 M6 q6 h8 h9 h12 => ?_) (fun y2 M2 q2 y4 M4 q4 y6 M6 q6 h8 => ?_)
  · rw [← q6.2]
    exact next M4 (key _ _ q2 _ _ q4)
  · rw [← q6.2]
    exact next M4 (key _ _ q2 _ _ q4)
  · exfalso
    have c := ans _ _ q2 _ _ q4
    obtain ⟨-, rfl⟩ := q6
    exact h12 (cmp_eq (c.2 h9))
  · have c := ans _ _ q2 _ _ q4
    exact absurd (q6.1.symm.trans c.1) h8
theorem law_c26 (hl0 : l.1.stackTraces = false) (hG : ∀ G, l.2 G → scOk (some L, fun _ => none, [], []) xs G) (hM : LK M)
    (next : ∀ M', LK M' → AW l (pI pg 248) P kc ks 1093 [(4, .int (nI i)), (0, .retAddr 0), (1, .ref 0), (2, .ref 58), (3, .ref 93)] [] SHF M') : AW l (pI pg 248) P (kc + 2) (ks + 12) 1067 [(4, .int (nI i)), (0, .retAddr 0), (1, .ref 0), (2, .ref 58), (3, .ref 93)] [] SHF M := by
  obtain ⟨u, s, H, a, b, hJ, hK, hr⟩ := hM
  have hW : ∀ e ∈ RW, M.2.2 e.1 e.2.1 = e.2.2 := (hoC_J hJ.2.2.1).elim (fun h e he => h.2 e ((show ∀ e ∈ RW, e ∈ RR.2 by decide +kernel) e he)) (fun h e he => h.2 e ((show ∀ e ∈ RW, e ∈ RRS.2 by decide +kernel) e he))
  exact lw_c26 hG (fun z M' => (LJ u s H M' ∧ kp [(49, 0), (49, 1), (57, 0), (57, 1), (57, 2), (58, 51), (58, 57), (58, 58), (66, 0), (66, 1), (66, 2)] M M') ∧ QIm z (imO a b).1 ∧ cKb (imO a b).2 M') (AC.joinG (fcgI hl0 (img_c hl0 hW hK.1 hK.2.1) (fun z M' _ q => q)) (ls_35 hl0 hJ) (fun z M' M1 q2 q1 hs => ⟨q2, q1.1, cKb_eq q1.2.2.1 (sme_Z hs (53, 0) (by decide)) (sme_Z hs (53, 1) (by decide))⟩)) (fun _ M2 z M' => (LJ u s H M' ∧ kp [(49, 0), (49, 1), (53, 0), (53, 1), (57, 0), (57, 1), (57, 2), (58, 51), (66, 0), (66, 1), (66, 2)] M2 M') ∧ QIm z (imO a b).1 ∧ mKb (imO a b).2 M') (fun y2 M2 q2 => AC.joinG (fcgI hl0 (mim_c hl0 (LJ_RM q2.1.1) (mKa_eq hK.2.2.1 (q2.1.2 (58, 51) (by decide))) (mKb_eq hK.2.2.2 (q2.1.2 (58, 57) (by decide)) (q2.1.2 (58, 58) (by decide)))) (fun z M' _ q => q)) (ls_246 hl0 q2.1.1) (fun z M' M1 q3 q1 hs => ⟨q3, q1.1, mKb_eq q1.2.2.1 (sme_Z hs (58, 57) (by decide)) (sme_Z hs (58, 58) (by decide))⟩)) (fun y2 M2 q2 y4 M4 q4 => next M4 ⟨u, s, H, a, (imO a b).2, q4.1.1, ⟨cKa_eq (cKa_eq hK.1 (q2.1.2 (49, 0) (by decide)) (q2.1.2 (49, 1) (by decide))) (q4.1.2 (49, 0) (by decide)) (q4.1.2 (49, 1) (by decide)), cKb_eq q2.2.2 (q4.1.2 (53, 0) (by decide)) (q4.1.2 (53, 1) (by decide)), mKa_eq (mKa_eq hK.2.2.1 (q2.1.2 (58, 51) (by decide))) (q4.1.2 (58, 51) (by decide)), q4.2.2⟩, RF_eq (RF_eq hr (kp_sub q2.1.2 (by decide))) (kp_sub q4.1.2 (by decide))⟩)
theorem law_c27 (hl0 : l.1.stackTraces = false) (hG : ∀ G, l.2 G → scOk (some L, fun _ => none, [], []) xs G) (hM : LK M)
    (next : ∀ M', LK M' → AW l (pI pg 248) P kc ks 1093 [(4, .int (nI i)), (0, .retAddr 0), (1, .ref 0), (2, .ref 58), (3, .ref 93)] [] SHF M') : AW l (pI pg 248) P (kc + 2) (ks + 12) 1080 [(4, .int (nI i)), (0, .retAddr 0), (1, .ref 0), (2, .ref 58), (3, .ref 93)] [] SHF M := by
  obtain ⟨u, s, H, a, b, hJ, hK, hr⟩ := hM
  have hW : ∀ e ∈ RW, M.2.2 e.1 e.2.1 = e.2.2 := (hoC_J hJ.2.2.1).elim (fun h e he => h.2 e ((show ∀ e ∈ RW, e ∈ RR.2 by decide +kernel) e he)) (fun h e he => h.2 e ((show ∀ e ∈ RW, e ∈ RRS.2 by decide +kernel) e he))
  exact lw_c27 hG (fun z M' => (LJ u s H M' ∧ kp [(53, 0), (53, 1), (57, 0), (57, 1), (57, 2), (58, 51), (58, 57), (58, 58), (66, 0), (66, 1), (66, 2)] M M') ∧ QIm z (imO b a).1 ∧ cKa (imO b a).2 M') (AC.joinG (fcgI hl0 (rst_c hl0 hW hK.1 hK.2.1) (fun z M' _ q => q)) (ls_37 hl0 hJ) (fun z M' M1 q2 q1 hs => ⟨q2, q1.1, cKa_eq q1.2.2.1 (sme_Z hs (49, 0) (by decide)) (sme_Z hs (49, 1) (by decide))⟩)) (fun _ M2 z M' => (LJ u s H M' ∧ kp [(49, 0), (49, 1), (53, 0), (53, 1), (57, 0), (57, 1), (57, 2), (58, 57), (58, 58), (66, 0), (66, 1), (66, 2)] M2 M') ∧ QIm z (imO b a).1 ∧ mKa (imO b a).2 M') (fun y2 M2 q2 => AC.joinG (fcgI hl0 (mrs_c hl0 (LJ_RM q2.1.1) (mKa_eq hK.2.2.1 (q2.1.2 (58, 51) (by decide))) (mKb_eq hK.2.2.2 (q2.1.2 (58, 57) (by decide)) (q2.1.2 (58, 58) (by decide)))) (fun z M' _ q => q)) (ls_247 hl0 q2.1.1) (fun z M' M1 q3 q1 hs => ⟨q3, q1.1, mKa_eq q1.2.2.1 (sme_Z hs (58, 51) (by decide))⟩)) (fun y2 M2 q2 y4 M4 q4 => next M4 ⟨u, s, H, (imO b a).2, b, q4.1.1, ⟨cKa_eq q2.2.2 (q4.1.2 (49, 0) (by decide)) (q4.1.2 (49, 1) (by decide)), cKb_eq (cKb_eq hK.2.1 (q2.1.2 (53, 0) (by decide)) (q2.1.2 (53, 1) (by decide))) (q4.1.2 (53, 0) (by decide)) (q4.1.2 (53, 1) (by decide)), q4.2.2, mKb_eq (mKb_eq hK.2.2.2 (q2.1.2 (58, 57) (by decide)) (q2.1.2 (58, 58) (by decide))) (q4.1.2 (58, 57) (by decide)) (q4.1.2 (58, 58) (by decide))⟩, RF_eq (RF_eq hr (kp_sub q2.1.2 (by decide))) (kp_sub q4.1.2 (by decide))⟩)
theorem law_sw (hl0 : l.1.stackTraces = false) (hG : ∀ G, l.2 G → scOk (some L, fun _ => none, [], []) xs G) (hM : LK M) (o1 : vp_in (nI i + Int32.ofInt 1) L) (o2 : vp_in (nI i + Int32.ofInt 2) L) (o3 : vp_in (nI i + Int32.ofInt 3) L) (o4 : vp_in (nI i + Int32.ofInt 4) L) (o5 : vp_in (nI i + Int32.ofInt 5) L)
    (next : ∀ M', LK M' → AW l (pI pg 248) P kc ks 1093 [(4, .int (nI i)), (0, .retAddr 0), (1, .ref 0), (2, .ref 58), (3, .ref 93)] [] SHF M') : ∀ j, j < 2 ^ 5 → AW l (pI pg 248) P (kc + 2) (ks + 12) 40 [(4, .int (nI i)), (0, .retAddr 0), (1, .ref 0), (2, .ref 58), (3, .ref 93)] [.int (nI j)] SHF M
  | 0, _ => AW.tableIn (off := 128) (tgt := 168) (dq rfl) (by decide) (by decide) (by decide) (by decide) (law_c0 hl0 hG hM o1 o2 o3 o4 o5 next)
  | 1, _ => AW.tableIn (off := 201) (tgt := 241) (dq rfl) (by decide) (by decide) (by decide) (by decide) (law_c1 hl0 hG hM o1 next)
  | 2, _ => AW.tableIn (off := 229) (tgt := 269) (dq rfl) (by decide) (by decide) (by decide) (by decide) (Exists.elim hM fun u h1 => Exists.elim h1 fun s h2 => Exists.elim h2 fun H h3 => Exists.elim h3 fun a h4 => Exists.elim h4 fun b hJ => lw_c2 hG (fun _ M' => LKd u s H a b M') (km_26 hl0 hJ) (fun _ _ _ M' => LKd u s H a b M') (fun y1 M1 q1 => km_193 hl0 q1) (fun y1 M1 q1 y3 M3 q3 => next _ ⟨u, s, H, a, b, q3⟩))
  | 3, _ => AW.tableIn (off := 242) (tgt := 282) (dq rfl) (by decide) (by decide) (by decide) (by decide) (Exists.elim hM fun u h1 => Exists.elim h1 fun s h2 => Exists.elim h2 fun H h3 => Exists.elim h3 fun a h4 => Exists.elim h4 fun b hJ => lw_c3 hG (o1) (fun _ M' => LKd u s H a b M') (kh_85 hl0 hJ) (fun _ _ _ M' => LKd u s H a b M') (fun y2 M2 q2 => km_194 hl0 q2) (fun y2 M2 q2 y4 M4 q4 => next _ ⟨u, s, H, a, b, q4⟩))
  | 4, _ => AW.tableIn (off := 270) (tgt := 310) (dq rfl) (by decide) (by decide) (by decide) (by decide) (Exists.elim hM fun u h1 => Exists.elim h1 fun s h2 => Exists.elim h2 fun H h3 => Exists.elim h3 fun a h4 => Exists.elim h4 fun b hJ => lw_c4 hG (o1) (o2) (fun _ M' => LKd u s H a b M') (kh_88 hl0 hJ) (fun _ _ _ M' => LKd u s H a b M') (fun y3 M3 q3 => km_196 hl0 q3) (fun y3 M3 q3 y5 M5 q5 => next _ ⟨u, s, H, a, b, q5⟩))
  | 5, _ => AW.tableIn (off := 310) (tgt := 350) (dq rfl) (by decide) (by decide) (by decide) (by decide) (Exists.elim hM fun u h1 => Exists.elim h1 fun s h2 => Exists.elim h2 fun H h3 => Exists.elim h3 fun a h4 => Exists.elim h4 fun b hJ => lw_c5 hG (o1) (o2) (fun _ M' => LKd u s H a b M') (kh_91 hl0 hJ) (fun _ _ _ M' => LKd u s H a b M') (fun y3 M3 q3 => km_198 hl0 q3) (fun y3 M3 q3 y5 M5 q5 => next _ ⟨u, s, H, a, b, q5⟩))
  | 6, _ => AW.tableIn (off := 350) (tgt := 390) (dq rfl) (by decide) (by decide) (by decide) (by decide) (Exists.elim hM fun u h1 => Exists.elim h1 fun s h2 => Exists.elim h2 fun H h3 => Exists.elim h3 fun a h4 => Exists.elim h4 fun b hJ => lw_c6 hG (o1) (o2) (fun _ M' => LKd u s H a b M') (kh_94 hl0 hJ) (fun _ _ _ M' => LKd u s H a b M') (fun y3 M3 q3 => km_200 hl0 q3) (fun y3 M3 q3 y5 M5 q5 => next _ ⟨u, s, H, a, b, q5⟩))
  | 7, _ => AW.tableIn (off := 390) (tgt := 430) (dq rfl) (by decide) (by decide) (by decide) (by decide) (Exists.elim hM fun u h1 => Exists.elim h1 fun s h2 => Exists.elim h2 fun H h3 => Exists.elim h3 fun a h4 => Exists.elim h4 fun b hJ => lw_c7 hG (o1) (o2) (fun _ M' => LKd u s H a b M') (kh_96 hl0 hJ) (fun _ _ _ M' => LKd u s H a b M') (fun y3 M3 q3 => km_201 hl0 q3) (fun y3 M3 q3 y5 M5 q5 => next _ ⟨u, s, H, a, b, q5⟩))
  | 8, _ => AW.tableIn (off := 430) (tgt := 470) (dq rfl) (by decide) (by decide) (by decide) (by decide) (Exists.elim hM fun u h1 => Exists.elim h1 fun s h2 => Exists.elim h2 fun H h3 => Exists.elim h3 fun a h4 => Exists.elim h4 fun b hJ => lw_c8 hG (o1) (fun _ M' => LKd u s H a b M') (kh_98 hl0 hJ) (fun _ _ _ M' => LKd u s H a b M') (fun y2 M2 q2 => km_202 hl0 q2) (fun y2 M2 q2 y4 M4 q4 => next _ ⟨u, s, H, a, b, q4⟩))
  | 9, _ => AW.tableIn (off := 458) (tgt := 498) (dq rfl) (by decide) (by decide) (by decide) (by decide) (Exists.elim hM fun u h1 => Exists.elim h1 fun s h2 => Exists.elim h2 fun H h3 => Exists.elim h3 fun a h4 => Exists.elim h4 fun b hJ => lw_c9 hG (o1) (fun _ M' => LKd u s H a b M') (kh_110 hl0 hJ) (fun _ _ _ M' => LKd u s H a b M') (fun y2 M2 q2 => km_214 hl0 q2) (fun y2 M2 q2 y4 M4 q4 => next _ ⟨u, s, H, a, b, q4⟩))
  | 10, _ => AW.tableIn (off := 486) (tgt := 526) (dq rfl) (by decide) (by decide) (by decide) (by decide) (Exists.elim hM fun u h1 => Exists.elim h1 fun s h2 => Exists.elim h2 fun H h3 => Exists.elim h3 fun a h4 => Exists.elim h4 fun b hJ => lw_c10 hG (o1) (fun _ M' => LKd u s H a b M') (kh_113 hl0 hJ) (fun _ _ _ M' => LKd u s H a b M') (fun y2 M2 q2 => km_215 hl0 q2) (fun y2 M2 q2 y4 M4 q4 => next _ ⟨u, s, H, a, b, q4⟩))
  | 11, _ => AW.tableIn (off := 514) (tgt := 554) (dq rfl) (by decide) (by decide) (by decide) (by decide) (Exists.elim hM fun u h1 => Exists.elim h1 fun s h2 => Exists.elim h2 fun H h3 => Exists.elim h3 fun a h4 => Exists.elim h4 fun b hJ => lw_c11 hG (o1) (fun _ M' => LKd u s H a b M') (kh_116 hl0 hJ) (fun _ _ _ M' => LKd u s H a b M') (fun y2 M2 q2 => km_218 hl0 q2) (fun y2 M2 q2 y4 M4 q4 => next _ ⟨u, s, H, a, b, q4⟩))
  | 12, _ => AW.tableIn (off := 542) (tgt := 582) (dq rfl) (by decide) (by decide) (by decide) (by decide) (law_c12 hl0 hG hM o1 o2 next)
  | 13, _ => AW.tableIn (off := 579) (tgt := 619) (dq rfl) (by decide) (by decide) (by decide) (by decide) (Exists.elim hM fun u h1 => Exists.elim h1 fun s h2 => Exists.elim h2 fun H h3 => Exists.elim h3 fun a h4 => Exists.elim h4 fun b hJ => lw_c13 hG (o1) (fun _ M' => LKd u s H a b M') (kh_120 hl0 hJ) (fun _ _ _ M' => LKd u s H a b M') (fun y2 M2 q2 => km_220 hl0 q2) (fun y2 M2 q2 y4 M4 q4 => next _ ⟨u, s, H, a, b, q4⟩))
  | 14, _ => AW.tableIn (off := 607) (tgt := 647) (dq rfl) (by decide) (by decide) (by decide) (by decide) (Exists.elim hM fun u h1 => Exists.elim h1 fun s h2 => Exists.elim h2 fun H h3 => Exists.elim h3 fun a h4 => Exists.elim h4 fun b hJ => lw_c14 hG (o1) (fun _ M' => LKd u s H a b M') (kh_123 hl0 hJ) (fun _ _ _ M' => LKd u s H a b M') (fun y2 M2 q2 => km_222 hl0 q2) (fun y2 M2 q2 y4 M4 q4 => next _ ⟨u, s, H, a, b, q4⟩))
  | 15, _ => AW.tableIn (off := 635) (tgt := 675) (dq rfl) (by decide) (by decide) (by decide) (by decide) (Exists.elim hM fun u h1 => Exists.elim h1 fun s h2 => Exists.elim h2 fun H h3 => Exists.elim h3 fun a h4 => Exists.elim h4 fun b hJ => lw_c15 hG (o1) (fun h2 => o2) (fun _ M' => LKd u s H a b M') (fun h2 => kh_128 hl0 hJ ⟨by decide, by decide⟩) (fun _ _ _ M' => LKd u s H a b M') (fun h2 y4 M4 q4 h6 => km_224 hl0 q4 ⟨by decide, by decide⟩) (fun h2 y4 M4 q4 h6 y7 M7 q7 => next _ ⟨u, s, H, a, b, q7⟩) (fun _ _ _ M' => LKd u s H a b M') (fun h2 y4 M4 q4 h6 => km_224 hl0 q4 ⟨by decide, by decide⟩) (fun h2 y4 M4 q4 h6 y10 M10 q10 => next _ ⟨u, s, H, a, b, q10⟩) (fun h2 => o2) (fun _ M' => LKd u s H a b M') (fun h2 => kh_128 hl0 hJ ⟨by decide, by decide⟩) (fun _ _ _ M' => LKd u s H a b M') (fun h2 y14 M14 q14 h16 => km_224 hl0 q14 ⟨by decide, by decide⟩) (fun h2 y14 M14 q14 h16 y17 M17 q17 => next _ ⟨u, s, H, a, b, q17⟩) (fun _ _ _ M' => LKd u s H a b M') (fun h2 y14 M14 q14 h16 => km_224 hl0 q14 ⟨by decide, by decide⟩) (fun h2 y14 M14 q14 h16 y20 M20 q20 => next _ ⟨u, s, H, a, b, q20⟩))
  | 16, _ => AW.tableIn (off := 691) (tgt := 731) (dq rfl) (by decide) (by decide) (by decide) (by decide) (Exists.elim hM fun u h1 => Exists.elim h1 fun s h2 => Exists.elim h2 fun H h3 => Exists.elim h3 fun a h4 => Exists.elim h4 fun b hJ => lw_c16 hG (fun _ M' => LKd u s H a b M') (km_30 hl0 hJ) (fun _ _ _ M' => LKd u s H a b M') (fun y1 M1 q1 => km_227 hl0 q1) (fun y1 M1 q1 y3 M3 q3 => next _ ⟨u, s, H, a, b, q3⟩))
  | 17, _ => AW.tableIn (off := 704) (tgt := 744) (dq rfl) (by decide) (by decide) (by decide) (by decide) (Exists.elim hM fun u h1 => Exists.elim h1 fun s h2 => Exists.elim h2 fun H h3 => Exists.elim h3 fun a h4 => Exists.elim h4 fun b hJ => lw_c17 hG (o1) (o2) (fun _ M' => LKd u s H a b M') (kh_138 hl0 hJ) (fun _ _ _ M' => LKd u s H a b M') (fun y3 M3 q3 => km_228 hl0 q3) (fun y3 M3 q3 y5 M5 q5 => next _ ⟨u, s, H, a, b, q5⟩))
  | 18, _ => AW.tableIn (off := 744) (tgt := 784) (dq rfl) (by decide) (by decide) (by decide) (by decide) (Exists.elim hM fun u h1 => Exists.elim h1 fun s h2 => Exists.elim h2 fun H h3 => Exists.elim h3 fun a h4 => Exists.elim h4 fun b hJ => lw_c18 hG (o1) (fun _ M' => LKd u s H a b M') (kh_143 hl0 hJ) (fun _ _ _ M' => LKd u s H a b M') (fun y2 M2 q2 => km_230 hl0 q2) (fun y2 M2 q2 y4 M4 q4 => next _ ⟨u, s, H, a, b, q4⟩))
  | 19, _ => AW.tableIn (off := 772) (tgt := 812) (dq rfl) (by decide) (by decide) (by decide) (by decide) (Exists.elim hM fun u h1 => Exists.elim h1 fun s h2 => Exists.elim h2 fun H h3 => Exists.elim h3 fun a h4 => Exists.elim h4 fun b hJ => lw_c19 hG (o1) (fun _ M' => LKd u s H a b M') (kh_149 hl0 hJ) (fun _ _ _ M' => LKd u s H a b M') (fun y2 M2 q2 => km_235 hl0 q2) (fun y2 M2 q2 y4 M4 q4 => next _ ⟨u, s, H, a, b, q4⟩))
  | 20, _ => AW.tableIn (off := 800) (tgt := 840) (dq rfl) (by decide) (by decide) (by decide) (by decide) (Exists.elim hM fun u h1 => Exists.elim h1 fun s h2 => Exists.elim h2 fun H h3 => Exists.elim h3 fun a h4 => Exists.elim h4 fun b hJ => lw_c20 hG (o1) (o2) (fun _ M' => LKd u s H a b M') (kh_151 hl0 hJ) (fun _ _ _ M' => LKd u s H a b M') (fun y3 M3 q3 => km_236 hl0 q3) (fun y3 M3 q3 y5 M5 q5 => next _ ⟨u, s, H, a, b, q5⟩))
  | 21, _ => AW.tableIn (off := 840) (tgt := 880) (dq rfl) (by decide) (by decide) (by decide) (by decide) (Exists.elim hM fun u h1 => Exists.elim h1 fun s h2 => Exists.elim h2 fun H h3 => Exists.elim h3 fun a h4 => Exists.elim h4 fun b hJ => lw_c21 hG (o1) (o2) (fun _ M' => LKd u s H a b M') (kh_153 hl0 hJ) (fun _ _ _ M' => LKd u s H a b M') (fun y3 M3 q3 => km_237 hl0 q3) (fun y3 M3 q3 y5 M5 q5 => next _ ⟨u, s, H, a, b, q5⟩))
  | 22, _ => AW.tableIn (off := 880) (tgt := 920) (dq rfl) (by decide) (by decide) (by decide) (by decide) (law_c22 hl0 hG hM o1 next)
  | 23, _ => AW.tableIn (off := 903) (tgt := 943) (dq rfl) (by decide) (by decide) (by decide) (by decide) (law_c23 hl0 hG hM o1 next)
  | 24, _ => AW.tableIn (off := 959) (tgt := 999) (dq rfl) (by decide) (by decide) (by decide) (by decide) (Exists.elim hM fun u h1 => Exists.elim h1 fun s h2 => Exists.elim h2 fun H h3 => Exists.elim h3 fun a h4 => Exists.elim h4 fun b hJ => lw_c24 hG (o1) (o2) (fun _ M' => LKd u s H a b M') (kh_163 hl0 hJ) (fun _ _ _ M' => LKd u s H a b M') (fun y3 M3 q3 => km_244 hl0 q3) (fun y3 M3 q3 y5 M5 q5 => next _ ⟨u, s, H, a, b, q5⟩))
  | 25, _ => AW.tableIn (off := 999) (tgt := 1039) (dq rfl) (by decide) (by decide) (by decide) (by decide) (Exists.elim hM fun u h1 => Exists.elim h1 fun s h2 => Exists.elim h2 fun H h3 => Exists.elim h3 fun a h4 => Exists.elim h4 fun b hJ => lw_c25 hG (o1) (fun _ M' => LKd u s H a b M') (kh_168 hl0 hJ) (fun _ _ _ M' => LKd u s H a b M') (fun y2 M2 q2 => km_245 hl0 q2) (fun y2 M2 q2 y4 M4 q4 => next _ ⟨u, s, H, a, b, q4⟩))
  | 26, _ => AW.tableIn (off := 1027) (tgt := 1067) (dq rfl) (by decide) (by decide) (by decide) (by decide) (law_c26 hl0 hG hM next)
  | 27, _ => AW.tableIn (off := 1040) (tgt := 1080) (dq rfl) (by decide) (by decide) (by decide) (by decide) (law_c27 hl0 hG hM next)
  | 28, _ => AW.tableOut (tgt := 1093) (dq rfl) (by decide) (by decide) (AW.mono (Nat.le_add_right _ _) (Nat.le_add_right _ _) (next M hM))
  | 29, _ => AW.tableOut (tgt := 1093) (dq rfl) (by decide) (by decide) (AW.mono (Nat.le_add_right _ _) (Nat.le_add_right _ _) (next M hM))
  | 30, _ => AW.tableOut (tgt := 1093) (dq rfl) (by decide) (by decide) (AW.mono (Nat.le_add_right _ _) (Nat.le_add_right _ _) (next M hM))
  | 31, _ => AW.tableOut (tgt := 1093) (dq rfl) (by decide) (by decide) (AW.mono (Nat.le_add_right _ _) (Nat.le_add_right _ _) (next M hM))
  | j + 32, h => absurd h (by omega)
theorem law_loop (hl0 : l.1.stackTraces = false) (hG : ∀ G, l.2 G → scOk (some L, fun _ => none, [], []) xs G) (hL : L ≤ 3072) (hP : ∀ M', P (.inl (some (.int 1))) SHF M') : ∀ (d c : Nat) (M : aM), LK M → L < 6 * c + 6 + 6 * d → c + d ≤ 512 → AW l (pI pg 248) P (2 * d) (12 * d) 23 [(4, .int (nI (6 * c))), (0, .retAddr 0), (1, .ref 0), (2, .ref 58), (3, .ref 93)] [] SHF M := by
  have lt : ∀ c : Nat, c ≤ 512 → ((Int32.ofNat L - (Int8.ofInt 6).toInt32 < nI (6 * c)) ↔ L < 6 * c + 6) := by
    intro c hc
    rw [z_6, Int32.lt_iff_toInt_lt, show (Int32.ofNat L - nI 6).toInt = (L : Int) - 6 from pk_sub_toInt (by omega) (by decide), nI_toInt (by omega)]
    omega
  intro d
  induction d with
  | zero =>
    intro c M hM h1 h2
    have hlt := (lt c (by omega)).mpr (by omega)
    have no : ¬ ¬ (Int32.ofNat L - (Int8.ofInt 6).toInt32 < nI (6 * c)) := fun h => h hlt
    have k0 := lw_23z (kc := 0) (ks := 0) (P := P) (M := M) (i := 6 * c) hG (fun _ => hP M) (fun h => absurd h no) (fun h => absurd h no)
    exact k0
  | succ d ih =>
    intro c M hM h1 h2
    show AW l (pI pg 248) P (2 * d + 2) (12 * d + 12) 23 _ _ _ _
    refine lw_23 hG (fun _ => hP M) (fun h => ?_) (fun h => ?_)
    · rw [lt c (by omega)] at h
      exact vp_in_nI (by omega) (by omega)
    rw [lt c (by omega)] at h
    have h6 : 6 * c + 6 ≤ L := by omega
    have o1 : vp_in (nI (6 * c) + Int32.ofInt 1) L := by
      rw [show nI (6 * c) + Int32.ofInt 1 = nI (6 * c + 1) from nI_add _ 1]
      exact vp_in_nI (by omega) (by omega)
    have o2 : vp_in (nI (6 * c) + Int32.ofInt 2) L := by
      rw [show nI (6 * c) + Int32.ofInt 2 = nI (6 * c + 2) from nI_add _ 2]
      exact vp_in_nI (by omega) (by omega)
    have o3 : vp_in (nI (6 * c) + Int32.ofInt 3) L := by
      rw [show nI (6 * c) + Int32.ofInt 3 = nI (6 * c + 3) from nI_add _ 3]
      exact vp_in_nI (by omega) (by omega)
    have o4 : vp_in (nI (6 * c) + Int32.ofInt 4) L := by
      rw [show nI (6 * c) + Int32.ofInt 4 = nI (6 * c + 4) from nI_add _ 4]
      exact vp_in_nI (by omega) (by omega)
    have o5 : vp_in (nI (6 * c) + Int32.ofInt 5) L := by
      rw [show nI (6 * c) + Int32.ofInt 5 = nI (6 * c + 5) from nI_add _ 5]
      exact vp_in_nI (by omega) (by omega)
    have next : ∀ M', LK M' → AW l (pI pg 248) P (2 * d) (12 * d) 1093 [(4, .int (nI (6 * c))), (0, .retAddr 0), (1, .ref 0), (2, .ref 58), (3, .ref 93)] [] SHF M' := by
      intro M' hM'
      refine lw_E hG ?_
      rw [show nI (6 * c) + Int32.ofInt 6 = nI (6 * (c + 1)) from nI_add _ 6]
      exact ih (c + 1) M' hM' (by omega) (by omega)
    obtain ⟨j, hj, e⟩ := pk_andE (xs (nI (6 * c)).toNatClampNeg) (m := (Int8.ofInt 31).toInt32) 5 (by decide)
    rw [e]
    exact law_sw hl0 hG hM o1 o2 o3 o4 o5 next j hj
end LOOP
/-- the start: what the constructors leave -/
def rg0 (G : List (Nat × Nat × Value)) (e : Nat × (iI ⊕ List (Nat × iI))) : Bool := match e.2 with
  | .inl q => decide (q.1 ≤ 0) && (decide (0 ≤ q.2) && G.all (fun z => !Nat.beq z.1 e.1 || (match z.2.2 with
    | .int x => decide (q.1 ≤ x.toInt) && decide (x.toInt ≤ q.2)
    | _ => false)))
  | .inr F => F.all (fun f => match gk (.int 0) G e.1 f.1 with
    | .int x => decide (f.2.1 ≤ x.toInt) && decide (x.toInt ≤ f.2.2)
    | _ => false)
theorem gk_mem {α : Type} {z : α} : ∀ (G : List (Nat × Nat × α)) (a k : Nat), gk z G a k = z ∨ ∃ q ∈ G, q.1 = a ∧ q.2.2 = gk z G a k
  | [], _, _ => Or.inl rfl
  | q :: r, a, k => by
    unfold gk
    split
    · next h =>
        rw [Bool.and_eq_true] at h
        exact Or.inr ⟨q, List.mem_cons_self, Nat.eq_of_beq_eq_true h.1, rfl⟩
    · rcases gk_mem r a k with h | ⟨q', h1, h2⟩
      · exact Or.inl h
      · exact Or.inr ⟨q', List.mem_cons_of_mem _ h1, h2⟩
theorem rg0_ok {xs : Nat → Int32} {g : gM} {e : Nat × (iI ⊕ List (Nat × iI))} (h : rg0 g.1 e = true) : rgOk (den xs g) e := by
  unfold rg0 at h
  unfold rgOk
  split at h
  · next q hq =>
      rw [hq]
      simp only [Bool.and_eq_true, decide_eq_true_eq] at h
      obtain ⟨h1, h2, h3⟩ := h
      intro k
      show inI (iv xs (gk (.int 0) g.1 e.1 k)) q
      rcases gk_mem (z := (Value.int 0)) g.1 e.1 k with h | ⟨z, hz, hz1, hz2⟩
      · rw [h]
        exact ⟨by show q.1 ≤ (0 : Int32).toInt; rw [show (0 : Int32).toInt = 0 by decide]; exact h1, by show (0 : Int32).toInt ≤ q.2; rw [show (0 : Int32).toInt = 0 by decide]; exact h2⟩
      · have h4 := List.all_eq_true.mp h3 z hz
        rw [hz1, Nat.beq_refl, Bool.not_true, Bool.false_or] at h4
        rw [← hz2]
        split at h4
        · next x hx =>
            rw [hx]
            simp only [Bool.and_eq_true, decide_eq_true_eq] at h4
            exact h4
        · cases h4
  · next F hF =>
      rw [hF]
      intro f hf
      have h4 := List.all_eq_true.mp h f hf
      show inI (iv xs (gk (.int 0) g.1 e.1 f.1)) f.2
      split at h4
      · next x hx =>
          rw [hx]
          simp only [Bool.and_eq_true, decide_eq_true_eq] at h4
          exact h4
      · cases h4
theorem cell_0 (xs : Nat → Int32) {a k : Nat} {x : Int32} (h : gk (.int 0) LM0.1 a k = .int x) : (den xs LM0).1 a k = x := by
  show iv xs (gk (.int 0) LM0.1 a k) = x
  rw [h]
  rfl
theorem z_6a : ∀ k, k < 6 → gk (.int 0) LM0.1 7 k = .int 0 ∧ gk (.int 0) LM0.1 8 k = .int 0 := by decide +kernel
theorem z_8a : ∀ k, k < 8 → gk (.int 0) LM0.1 11 k = .int 0 := by decide +kernel
theorem z_48a : ∀ k, k < 48 → gk (.int 0) LM0.1 12 k = .int 0 := by decide +kernel
theorem LI_0 (xs : Nat → Int32) : LI (den xs LM0) := by
  refine ⟨fun _ => 0, 0, HS0, ⟨by decide, cell_0 xs (by decide +kernel), cell_0 xs (by decide +kernel), fun _ => Nat.le_of_ble_eq_true rfl, fun i hi => absurd hi (Nat.not_lt_zero _), fun i hi => absurd hi (Nat.not_lt_zero _)⟩, HI_0, Or.inl ⟨⟨fun e he => rg0_ok (List.all_eq_true.mp (show RR.1.all (rg0 LM0.1) = true by decide +kernel) e he), fun e he => ?_⟩, ?_⟩, ?_, ?_⟩
  · show gk 0 LM0.2.2 e.1 e.2.1 = e.2.2
    exact (show ∀ e ∈ RR.2, gk 0 LM0.2.2 e.1 e.2.1 = e.2.2 by decide +kernel) e he
  · exact cHo.of (pe := cell_0 xs (by decide +kernel)) (wo := cell_0 xs (by decide +kernel)) (te := cell_0 xs (by decide +kernel)) (fo := cell_0 xs (by decide +kernel)) (ho := fun i hi => absurd hi (Nat.not_lt_zero _)) (ch := fun i hi => absurd hi (Nat.not_lt_zero _)) (cd := fun i hi => cell_0 xs (z_6a i hi).1) (ml := fun i hi => cell_0 xs (z_6a i hi).2) (be := fun i hi => absurd hi (Nat.not_lt_zero _)) (le := fun i hi => absurd hi (Nat.not_lt_zero _)) (dr := fun i hi => cell_0 xs (z_8a i hi)) (sk := fun i hi => cell_0 xs (z_48a i hi)) (t0 := fun i hi => absurd hi (Nat.not_lt_zero _)) (t1 := fun i hi => absurd hi (Nat.not_lt_zero _)) (t2 := fun i hi => absurd hi (Nat.not_lt_zero _)) (t3 := fun i hi => absurd hi (Nat.not_lt_zero _))
  · exact ⟨cell_0 xs (by decide +kernel), cell_0 xs (by decide +kernel), cell_0 xs (by decide +kernel), cell_0 xs (by decide +kernel), fun i hi => absurd hi (Nat.not_lt_zero _), fun i hi => absurd hi (Nat.not_lt_zero _), fun i hi => absurd hi (Nat.not_lt_zero _), fun i hi => absurd hi (Nat.not_lt_zero _), fun i w hi => absurd hi (Nat.not_lt_zero _), fun k hk => absurd hk (Nat.not_lt_zero _)⟩
  · exact (cell_0 xs (x := Int32.ofInt (-1)) (by decide +kernel)).trans (cell_0 xs (x := Int32.ofInt (-1)) (by decide +kernel)).symm
theorem LK_0 (xs : Nat → Int32) : LK (den xs LM0) := by
  obtain ⟨u, s, H, hJ⟩ := LI_0 xs
  refine ⟨u, s, H, none, none, hJ, ⟨⟨cell_0 xs (by decide +kernel), cell_0 xs (by decide +kernel)⟩, cell_0 xs (by decide +kernel), cell_0 xs (x := Int32.ofInt (-1)) (by decide +kernel), cell_0 xs (by decide +kernel)⟩, fun k h3 => ?_⟩
  rcases k3 h3 with e | e | e
  · subst e
    exact (cell_0 xs (x := 0) (by decide +kernel)).trans (cell_0 xs (x := 0) (by decide +kernel)).symm
  · subst e
    exact (cell_0 xs (x := 0) (by decide +kernel)).trans (cell_0 xs (x := 0) (by decide +kernel)).symm
  · subst e
    exact (cell_0 xs (x := 0) (by decide +kernel)).trans (cell_0 xs (x := 0) (by decide +kernel)).symm
/-- THE LAW, on a script of at most 3072 ints -/
theorem p25_law {l : Launch} {P : aP} {xs : Nat → Int32} {L : Nat} (hL : L ≤ 3072) (hl0 : l.stackTraces = false) (hP : ∀ sh M, P (.inl (some (.int 1))) sh M) : AW (l, fun G => G.2.2.2.2 = xs ∧ G.2.2.2.1 = L) (pI pg 248) P (1024 + 94) (6144 + 11823) 0 [(0, .retAddr 0)] [] (true, []) (den xs ([], [], [])) := by
  refine eqK_ok (sc := scN) pg_ok hl0 (fun G hG => ⟨hG.1, fun _ h => (by cases h), fun _ _ h => (by cases h), fun _ h => absurd h List.not_mem_nil, fun _ h => absurd h List.not_mem_nil⟩) p1_made ?_
  refine AW.shf ?_
  refine AW.drop (lv' := [(4, .int (nI (6 * 0))), (0, .retAddr 0), (1, .ref 0), (2, .ref 58), (3, .ref 93)]) (List.forall_mem_cons.mpr ⟨List.mem_of_getElem? (i := 0) rfl, List.forall_mem_cons.mpr ⟨List.mem_of_getElem? (i := 4) rfl, List.forall_mem_cons.mpr ⟨List.mem_of_getElem? (i := 3) rfl, List.forall_mem_cons.mpr ⟨List.mem_of_getElem? (i := 2) rfl, List.forall_mem_cons.mpr ⟨List.mem_of_getElem? (i := 1) rfl, fun _ h => absurd h List.not_mem_nil⟩⟩⟩⟩⟩) ?_
  exact law_loop (l := (l, fun G => G.2.2.2.2 = xs ∧ G.2.2.2.1 = L)) hl0 (fun G hG => ⟨hG.1, fun _ h => (by cases h; exact hG.2), fun _ _ h => (by cases h), fun _ h => absurd h List.not_mem_nil, fun _ h => absurd h List.not_mem_nil⟩) hL (fun M' => hP _ _) 512 0 _ (LK_0 xs) (by omega) (by omega)
