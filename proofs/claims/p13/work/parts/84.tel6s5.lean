/-! THE CLASS'S LEFTS: for each set of works who can do it, a bit for each who may be left -/
section LFT0
variable {M : aM} {H : HS}
/-- able: the people below p -/
def abO (H : HS) (cd : Nat → Nat) (p : Nat) (M : aM) (t : Nat) : Prop := ∀ lf, lf < 64 → (bL (lgV M 34 t) lf = true ↔ lf < 2 ^ p ∧ rea H cd lf p t)
end LFT0
section LFT1
variable {l : aL} {M : aM} {H : HS}
theorem nI_xorN {a b : Nat} (ha : a < 2 ^ 31) (hb : b < 2 ^ 31) : nI a ^^^ nI b = nI (a ^^^ b) := by
  apply Int32.toBitVec_inj.mp
  apply BitVec.eq_of_toNat_eq
  show (BitVec.ofNat 32 a ^^^ BitVec.ofNat 32 b).toNat = (BitVec.ofNat 32 (a ^^^ b)).toNat
  have hc : a ^^^ b < 2 ^ 32 := Nat.xor_lt_two_pow (by omega) (by omega)
  rw [BitVec.toNat_xor, BitVec.toNat_ofNat, BitVec.toNat_ofNat, BitVec.toNat_ofNat, Nat.mod_eq_of_lt hc, Nat.mod_eq_of_lt (show a < 2 ^ 32 by omega), Nat.mod_eq_of_lt (show b < 2 ^ 32 by omega)]
/-- what withHelp gathers: his parts of the set, and none -/
def whO (H : HS) (M : aM) (t own m : Nat) (f : Int64) : Prop := ∀ lf, lf < 64 → (bL f lf = true ↔ bL (lgV M 34 t) lf = true ∨ ∃ a, 0 < a ∧ a &&& own = a ∧ fit H a m ∧ bL (lgV M 34 (t ^^^ a)) lf = true)
theorem whe_c (hl0 : l.1.stackTraces = false) (hR : ∀ e ∈ RL, M.2.2 e.1 e.2.1 = e.2.2) (w8 : H.wo ≤ 8) (hs : ∀ t, t < 2 ^ H.wo → ((noC H H.wo t ∧ M.1 31 t = nI (sumL H H.wo t)) ∨ (¬ noC H H.wo t ∧ M.1 31 t = nI 99))) (hsl : ∀ t, sumL H H.wo t ≤ 64) {t c m : Nat} (ht : t < 2 ^ H.wo) (hc : c < 256) (hm : m ≤ 24) : AC l (pI pg 19) (fcJ M (fun f M' => M' = M ∧ whO H M t (t &&& c) m f)) 0 0 [.ref 33, .ref 30, .int (nI t), .int (nI c), .int (nI m)] SHF M := by
  have P8 := p2_8 w8
  refine fw_of hl0 ⟨by decide +kernel, by decide +kernel, by decide +kernel⟩ rfl ?_
  refine whe_0 hR hl0 (vp_in_nI (by omega) (by decide)) ?_
  rw [nI_andN (by omega) (by omega), nI_clamp (by omega)]
  have own_lt : t &&& c ≤ t := Nat.and_le_left
  generalize ho : t &&& c = own at *
  have ost : sbs own t := fun w hw => by
    rw [← ho, Nat.testBit_and, Bool.and_eq_true] at hw
    exact hw.1
  have loop : ∀ (n v : Nat) (f : Int64), v ≤ n → v &&& own = v → (∀ lf, lf < 64 → (bL f lf = true ↔ bL (lgV M 34 t) lf = true ∨ ∃ a, v < a ∧ a &&& own = a ∧ fit H a m ∧ bL (lgV M 34 (t ^^^ a)) lf = true)) → AW l (pI pg 19) (fcJ M (fun f M' => M' = M ∧ whO H M t own m f)) 0 0 17 [(8, .int (nI v)), (6, .long f), (5, .int (nI own)), (4, .int (nI m)), (3, .int (nI c)), (2, .int (nI t)), (1, .ref 30), (0, .ref 33)] [] SHF M := by
    intro n
    induction n with
    | zero =>
      intro v f hv hvo hf
      have ev : v = 0 := by omega
      subst ev
      have le : nI 0 ≤ 0 := Int32.le_refl _
      exact whe_17 hR hl0 (fun _ => ⟨rfl, rfl, _, rfl, rfl, hf⟩) (fun h => absurd le h) (fun h => absurd le h) (fun h => absurd le h) (fun h => absurd le h)
    | succ n ih =>
      intro v f hv hvo hf
      by_cases v0 : v = 0
      · exact ih v f (by omega) hvo hf
      have vo : v ≤ own := by rw [← hvo]; exact Nat.and_le_right
      have nle0 : ¬ nI v ≤ 0 := by
        rw [show (0 : Int32) = nI 0 from rfl, nle (by omega) (by decide)]
        omega
      have nv : (nI v - Int32.ofInt 1) &&& nI own = nI ((v - 1) &&& own) := by
        rw [show nI v - Int32.ofInt 1 = nI (v - 1) from nI_subN (b := 1) (by omega) (by omega), nI_andN (by omega) (by omega)]
      have vt : sbs v t := fun w hw => ost w (sbs_and.mpr hvo w hw)
      have vlt : v < 2 ^ H.wo := by omega
      have cv : (nI v).toNatClampNeg = v := nI_clamp (by omega)
      have v1 : (v - 1) &&& own < v := Nat.lt_of_le_of_lt Nat.and_le_left (by omega)
      have vn : ((v - 1) &&& own) &&& own = (v - 1) &&& own := by rw [Nat.and_assoc, Nat.and_self]
      have fitv : nI m < M.1 31 v ↔ ¬ fit H v m := by
        have := hsl v
        rcases hs v vlt with ⟨u1, u2⟩ | ⟨u1, u2⟩
        · rw [u2, nlt (by omega) (by omega)]
          exact ⟨fun h g => by have := g.2; omega, fun h => Nat.lt_of_not_le fun g => h ⟨u1, g⟩⟩
        · rw [u2, nlt (by omega) (by decide)]
          exact ⟨fun _ g => u1 g.1, fun _ => by omega⟩
      have step : ∀ a, (v - 1) &&& own < a → a &&& own = a → v < a ∨ a = v := fun a h1 h2 => by
        by_cases e : a < v
        · have := sub_next v own a hvo h2 e
          omega
        · omega
      refine whe_17 hR hl0 (fun h => absurd h nle0) (fun _ => vp_in_nI (by omega) (by decide)) (fun _ h4 => ?_) (fun _ _ => ?_) (fun _ h4 => ?_)
      · rw [cv, fitv] at h4
        rw [nv]
        refine ih _ f (by omega) vn (fun lf hlf => (hf lf hlf).trans (or_congr Iff.rfl ⟨?_, ?_⟩))
        · rintro ⟨a, a1, a2⟩
          exact ⟨a, by omega, a2⟩
        · rintro ⟨a, a1, a2, a3, a4⟩
          rcases step a a1 a2 with h | h
          · exact ⟨a, h, a2, a3, a4⟩
          · rw [h] at a3
            exact absurd a3 h4
      · have xl : t ^^^ v < 256 := Nat.xor_lt_two_pow (n := 8) (by omega) (by omega)
        rw [nI_xorN (by omega) (by omega)]
        exact vp_in_nI xl (by decide)
      · have xl : t ^^^ v < 256 := Nat.xor_lt_two_pow (n := 8) (by omega) (by omega)
        rw [cv, fitv, Classical.not_not] at h4
        rw [nv, nI_xorN (by omega) (by omega), nI_clamp (by omega)]
        refine ih _ _ (by omega) vn (fun lf hlf => ?_)
        rw [bL_or, Bool.or_eq_true, hf lf hlf]
        constructor
        · rintro ((h | ⟨a, a1, a2⟩) | h)
          · exact Or.inl h
          · exact Or.inr ⟨a, by omega, a2⟩
          · exact Or.inr ⟨v, v1, hvo, h4, h⟩
        · rintro (h | ⟨a, a1, a2, a3, a4⟩)
          · exact Or.inl (Or.inl h)
          · rcases step a a1 a2 with h | h
            · exact Or.inl (Or.inr ⟨a, h, a2, a3, a4⟩)
            · rw [h] at a4
              exact Or.inr a4
  refine loop own own _ (Nat.le_refl _) (Nat.and_self _) (fun lf hlf => ⟨Or.inl, fun h => h.elim id ?_⟩)
  rintro ⟨a, a1, a2, -⟩
  have : a ≤ own := by rw [← a2]; exact Nat.and_le_right
  omega
end LFT1
section LFT2
variable {l : aL} {M : aM} {H : HS}
theorem fiJ34_c (hl0 : l.1.stackTraces = false) {f : Int64} : AC l (pI pg 17) (fcV M (fun M' => (∀ k, k < 256 → lgV M' 34 k = f) ∧ ∀ a c, a ≠ 34 → M'.1 a c = M.1 a c)) 0 0 [.ref 34, .long f] SHF M := by
  refine fw_of hl0 ⟨by decide +kernel, by decide +kernel, by decide +kernel⟩ rfl ?_
  refine fiJ34_0 hl0 ?_
  have loop : ∀ (d i : Nat) (M1 : aM), i + d = 256 → M1.2.2 = M.2.2 → (∀ k, k < i → lgV M1 34 k = f) → (∀ a c, a ≠ 34 → M1.1 a c = M.1 a c) → AW l (pI pg 17) (fcV M (fun M' => (∀ k, k < 256 → lgV M' 34 k = f) ∧ ∀ a c, a ≠ 34 → M'.1 a c = M.1 a c)) 0 0 6 [(0, .ref 34), (1, .long f), (3, .int (nI i)), (4, .int (Int32.ofNat 256))] [] SHF M1 := by
    intro d
    induction d with
    | zero =>
      intro i M1 hi h1 h2 h3
      have ei : i = 256 := by omega
      subst ei
      have le : Int32.ofNat 256 ≤ nI 256 := Int32.le_refl _
      exact fiJ34_6 hl0 (fun _ => ⟨rfl, h1, rfl, h2, h3⟩) (fun h => absurd le h) (fun h => absurd le h)
    | succ d ih =>
      intro i M1 hi h1 h2 h3
      refine fiJ34_6 hl0 (fun h => ge_no (a := i) (b := 256) (by omega) (by decide) h) (fun _ => vp_in_nI (by omega) (by decide)) (fun _ => ?_)
      rw [nI_clamp (by omega), show nI i + Int32.ofInt 1 = nI (i + 1) from nI_1 i]
      refine ih (i + 1) _ (by omega) h1 (fun k hk => ?_) (fun a c ha => ?_)
      · by_cases e : k = i
        · subst e
          exact asL_at
        · rw [asL_ne e]
          exact h2 k (by omega)
      · rw [asL_off ha]
        exact h3 a c ha
  exact loop 256 0 M rfl rfl (fun k hk => absurd hk (Nat.not_lt_zero _)) (fun _ _ _ => rfl)
theorem alwa_c (hl0 : l.1.stackTraces = false) (w8 : H.wo ≤ 8) (h : M.1 4 1 = nI H.wo) : AC l (pI pg 18) (fcI M (fun y M' => M' = M ∧ y = nI (2 ^ H.wo - 1))) 0 0 [.ref 4] SHF M := by
  refine fw_of hl0 ⟨by decide +kernel, by decide +kernel, by decide +kernel⟩ rfl ?_
  refine alwa_0 hl0 ?_
  rw [h, fullW w8]
  exact ⟨rfl, rfl, _, rfl, rfl, rfl⟩
theorem alwb_c (hl0 : l.1.stackTraces = false) (w8 : H.wo ≤ 8) (h : M.1 17 1 = nI H.wo) : AC l (pI pg 18) (fcI M (fun y M' => M' = M ∧ y = nI (2 ^ H.wo - 1))) 0 0 [.ref 17] SHF M := by
  refine fw_of hl0 ⟨by decide +kernel, by decide +kernel, by decide +kernel⟩ rfl ?_
  refine alwb_0 hl0 ?_
  rw [h, fullW w8]
  exact ⟨rfl, rfl, _, rfl, rfl, rfl⟩
def sI : Nat → Int32
  | 0 => Int32.ofInt (-1)
  | n + 1 => nI n
theorem sI_dn {n : Nat} (h : n < 2 ^ 30) : nI n + Int32.ofInt (-1) = sI n := by
  cases n with
  | zero => decide
  | succ n =>
    show nI (n + 1) + Int32.ofInt (-1) = nI n
    rw [← show nI n + Int32.ofInt 1 = nI (n + 1) from nI_1 n, Int32.add_assoc, show Int32.ofInt 1 + Int32.ofInt (-1) = 0 by decide, Int32.add_zero]
/-- one more person -/
theorem ab_next (hI : HI H) {cd : Nat → Nat} {p n : Nat} (hp : p < 6) (hn : n < 2 ^ H.wo) {f : Int64} (ho : ∀ t, t ≤ n → t < 2 ^ H.wo → abO H cd p M t) (hf : whO H M n (n &&& cd p) (H.ho p) f) : ∀ lf, lf < 64 → (bL (lgV M 34 n ||| (f <<< ((Int32.ofNat (2 ^ p)).toInt64 &&& 63))) lf = true ↔ lf < 2 ^ (p + 1) ∧ rea H cd lf (p + 1) n) := by
  intro lf hlf
  have P : 2 ^ p ≤ 2 ^ 5 := Nat.pow_le_pow_right (by decide) (by omega)
  have Pp := Nat.two_pow_pos p
  have P2 : 2 ^ (p + 1) = 2 ^ p + 2 ^ p := by rw [Nat.pow_succ]; omega
  rw [bL_or, Bool.or_eq_true, bL_shl (by omega), ho n (Nat.le_refl _) hn lf hlf]
  by_cases h1 : lf < 2 ^ p
  · rw [decide_eq_true h1, Bool.not_true, Bool.and_false, Bool.false_and, rea_skip h1]
    constructor
    · rintro (⟨a, b⟩ | a)
      · exact ⟨by omega, b⟩
      · cases a
    · rintro ⟨-, b⟩
      exact Or.inl ⟨h1, b⟩
  · obtain ⟨k, rfl⟩ : ∃ k, lf = k + 2 ^ p := ⟨lf - 2 ^ p, by omega⟩
    rw [decide_eq_true hlf, decide_eq_false h1, Bool.not_false, Bool.and_true, Bool.true_and, Nat.add_sub_cancel, hf k (by omega), ho n (Nat.le_refl _) hn k (by omega)]
    constructor
    · rintro (⟨a, -⟩ | ⟨a, b⟩ | ⟨a, a1, a2, a3, a4⟩)
      · omega
      · exact ⟨by omega, (rea_with a hn).mpr (Or.inl b)⟩
      · have as : sbs a n := fun w hw => by
          have := sbs_and.mpr a2 w hw
          rw [Nat.testBit_and, Bool.and_eq_true] at this
          exact this.1
        have lt : n ^^^ a ≤ n := Nat.le_of_testBit (fun i hi => by
          rw [Nat.testBit_xor] at hi
          cases e : n.testBit i with
          | true => rfl
          | false =>
            rw [e, Bool.false_xor] at hi
            rw [as i hi] at e
            cases e)
        rw [ho (n ^^^ a) lt (by omega) k (by omega)] at a4
        exact ⟨by omega, (rea_with a4.1 hn).mpr (Or.inr ⟨a, a1, a2, a3, a4.2⟩)⟩
    · rintro ⟨a, b⟩
      have kl : k < 2 ^ p := by omega
      rcases (rea_with kl hn).mp b with b | ⟨a, a1, a2, a3, a4⟩
      · exact Or.inr (Or.inl ⟨kl, b⟩)
      · have as : sbs a n := fun w hw => by
          have := sbs_and.mpr a2 w hw
          rw [Nat.testBit_and, Bool.and_eq_true] at this
          exact this.1
        have lt : n ^^^ a ≤ n := Nat.le_of_testBit (fun i hi => by
          rw [Nat.testBit_xor] at hi
          cases e : n.testBit i with
          | true => rfl
          | false =>
            rw [e, Bool.false_xor] at hi
            rw [as i hi] at e
            cases e)
        exact Or.inr (Or.inr ⟨a, a1, a2, a3, (ho (n ^^^ a) lt (by omega) k (by omega)).mpr ⟨kl, a4⟩⟩)
end LFT2
section LFT3
variable {l : aL} {M : aM} {H : HS}
def QFl (H : HS) (M M' : aM) : Prop := (∀ t, t < 2 ^ H.wo → abO H H.cd H.pe M' t) ∧ ∀ a c, a ≠ 34 → M'.1 a c = M.1 a c
theorem abO_fr {M' : aM} {cd : Nat → Nat} {p t : Nat} (h : abO H cd p M t) (e : lgV M' 34 t = lgV M 34 t) : abO H cd p M' t := fun lf hlf => by
  rw [e]
  exact h lf hlf
theorem fila_c (hl0 : l.1.stackTraces = false) (hR : ∀ e ∈ RR.2, M.2.2 e.1 e.2.1 = e.2.2) (hI : HI H) (hH : cHo 4 H M) (hs : ∀ t, t < 2 ^ H.wo → ((noC H H.wo t ∧ M.1 31 t = nI (sumL H H.wo t)) ∨ (¬ noC H H.wo t ∧ M.1 31 t = nI 99))) (hsl : ∀ t, sumL H H.wo t ≤ 64) : AC l (pI pg 16) (fcV M (QFl H M)) 0 0 [.ref 33, .ref 4, .ref 30, .ref 7] SHF M := by
  have w8 := hI.2.1
  have p6 := hI.1
  have P8 := p2_8 w8
  have wpos := Nat.two_pow_pos H.wo
  refine fw_of hl0 ⟨by decide +kernel, by decide +kernel, by decide +kernel⟩ rfl ?_
  refine fila_0 hR hl0 _ (fiJ34_c hl0) (fun M1 e1 q1 => vp_in_nI (n := 0) (by decide) (by decide)) (fun M1 e1 q1 => ?_)
  have outer : ∀ (d p : Nat) (M1 : aM), p + d = H.pe → M1.2.2 = M.2.2 → (∀ a c, a ≠ 34 → M1.1 a c = M.1 a c) → (∀ t, t < 2 ^ H.wo → abO H H.cd p M1 t) → AW l (pI pg 16) (fcV M (QFl H M)) 0 0 18 [(4, .int (nI p)), (3, .ref 7), (2, .ref 30), (1, .ref 4), (0, .ref 33)] [] SHF M1 := by
    intro d
    induction d with
    | zero =>
      intro p M1 hp h1 h2 h3
      have ep : p = H.pe := by omega
      subst ep
      have le : M1.1 4 0 ≤ nI H.pe := by rw [h2 4 0 (by decide), hH.pe]; exact Int32.le_refl _
      exact fila_18 (by rw [h1]; exact hR) hl0 (fun _ => ⟨rfl, h1, rfl, h3, h2⟩) (fun _ _ => True) (fun h => absurd le h) (fun h => absurd le h)
    | succ d ih =>
      intro p M1 hp h1 h2 h3
      have ng : ¬ M1.1 4 0 ≤ nI p := by
        rw [h2 4 0 (by decide), hH.pe, nle (by omega) (by omega)]
        omega
      refine fila_18 (by rw [h1]; exact hR) hl0 (fun h => absurd h ng) (fun y M' => M' = M1 ∧ y = nI (2 ^ H.wo - 1)) (fun _ => alwa_c hl0 w8 (by rw [h2 4 1 (by decide), hH.wo])) (fun _ y3 M3 e3 q3 => ?_)
      obtain ⟨rfl, rfl⟩ := q3
      have inner : ∀ (n : Nat) (M2 : aM), n ≤ 2 ^ H.wo → M2.2.2 = M.2.2 → (∀ a c, a ≠ 34 → M2.1 a c = M.1 a c) → (∀ t, t < 2 ^ H.wo → n ≤ t → abO H H.cd (p + 1) M2 t) → (∀ t, t < n → abO H H.cd p M2 t) → AW l (pI pg 16) (fcV M (QFl H M)) 0 0 33 [(5, .int (sI n)), (4, .int (nI p)), (3, .ref 7), (2, .ref 30), (1, .ref 4), (0, .ref 33)] [] SHF M2 := by
        intro n
        induction n with
        | zero =>
          intro M2 hn g1 g2 g3 g4
          have lt : sI 0 < 0 := by decide
          refine fila_33 (by rw [g1]; exact hR) hl0 (fun _ => ?_) (fun h => absurd lt h) (fun _ _ => True) (fun h => absurd lt h) (fun h => absurd lt h) (fun h => absurd lt h)
          rw [show nI p + Int32.ofInt 1 = nI (p + 1) from nI_1 p]
          exact ih (p + 1) M2 (by omega) g1 g2 (fun t ht => g3 t ht (Nat.zero_le _))
        | succ n ihn =>
          intro M2 hn g1 g2 g3 g4
          have nl : ¬ nI n < 0 := by
            rw [show (0 : Int32) = nI 0 from rfl, nlt (by omega) (by decide)]
            omega
          have cp : (nI p).toNatClampNeg = p := nI_clamp (by omega)
          have c7 : M2.1 7 p = nI (H.cd p) := (g2 7 p (by decide)).trans (hH.cd p (by omega))
          have c5 : M2.1 5 p = nI (H.ho p) := (g2 5 p (by decide)).trans (hH.ho p (by omega))
          have cd8 := (hI.2.2.2.2.2.2.2.2.1 p (by omega)).1
          have h24 := hI.2.2.2.2.1 p (by omega)
          show AW l (pI pg 16) (fcV M (QFl H M)) 0 0 33 [(5, .int (nI n)), (4, .int (nI p)), (3, .ref 7), (2, .ref 30), (1, .ref 4), (0, .ref 33)] [] SHF M2
          refine fila_33 (by rw [g1]; exact hR) hl0 (fun h => absurd h nl) (fun _ => vp_in_nI (by omega) (by decide)) (fun f M' => M' = M2 ∧ whO H M2 n (n &&& H.cd p) (H.ho p) f) (fun _ => ?_) (fun _ y4 M4 e4 q4 => vp_in_nI (by omega) (by decide)) (fun _ y4 M4 e4 q4 => ?_)
          · rw [cp, c7, c5]
            exact whe_c hl0 (by rw [g1]; exact fun e he => hR e (rl_RR e he)) w8 (fun t ht => by rw [g2 31 t (by decide)]; exact hs t ht) hsl (by omega) cd8 h24
          · obtain ⟨rfl, q4⟩ := q4
            rw [nI_clamp (n := n) (by omega), shW (show p ≤ 8 by omega), sI_dn (by omega)]
            have key := ab_next hI (cd := H.cd) (p := p) (n := n) (by omega) (by omega) (fun t h1 _ => g4 t (by omega)) q4
            refine ihn _ (by omega) g1 (fun a c ha => ?_) (fun t ht hnt => ?_) (fun t ht => ?_)
            · rw [asL_off ha]
              exact g2 a c ha
            · by_cases e : t = n
              · subst e
                intro lf hlf
                rw [asL_at]
                exact key lf hlf
              · exact abO_fr (g3 t ht (by omega)) (asL_ne e)
            · exact abO_fr (g4 t (by omega)) (asL_ne (by omega))
      have := inner (2 ^ H.wo) M3 (Nat.le_refl _) h1 h2 (fun t ht hn => absurd ht (Nat.not_lt.mpr hn)) h3
      rw [show sI (2 ^ H.wo) = nI (2 ^ H.wo - 1) by
        obtain ⟨k, hk⟩ : ∃ k, 2 ^ H.wo = k + 1 := ⟨2 ^ H.wo - 1, by omega⟩
        rw [hk]
        rfl] at this
      exact this
  refine outer H.pe 0 _ (by omega) e1 (fun a c ha => ?_) (fun t ht lf hlf => ?_)
  · rw [asL_off ha]
    exact q1.2 a c ha
  · rw [Nat.pow_zero]
    by_cases e : t = 0
    · subst e
      rw [show lgV (asL M1 34 (Int32.ofInt 0).toNatClampNeg (Int64.ofNat (1 : Fin 2))) 34 0 = Int64.ofNat (1 : Fin 2) from asL_at, show Int64.ofNat ((1 : Fin 2) : Nat) = 1 from rfl, bL_1, decide_eq_true_eq]
      exact ⟨fun h => ⟨by omega, rfl⟩, fun h => by omega⟩
    · rw [show lgV (asL M1 34 (Int32.ofInt 0).toNatClampNeg (Int64.ofNat (1 : Fin 2))) 34 t = lgV M1 34 t from asL_ne e, q1.1 t (by omega), show Int64.ofNat ((0 : Fin 2) : Nat) = 0 from rfl, bL_0]
      exact ⟨fun h => (by cases h), fun h => absurd h.2 e⟩
theorem filb_c (hl0 : l.1.stackTraces = false) (hR : ∀ e ∈ RRS.2, M.2.2 e.1 e.2.1 = e.2.2) (hI : HI H) (hH : cHo 17 H M) (hs : ∀ t, t < 2 ^ H.wo → ((noC H H.wo t ∧ M.1 31 t = nI (sumL H H.wo t)) ∨ (¬ noC H H.wo t ∧ M.1 31 t = nI 99))) (hsl : ∀ t, sumL H H.wo t ≤ 64) : AC l (pI pg 16) (fcV M (QFl H M)) 0 0 [.ref 33, .ref 17, .ref 30, .ref 20] SHF M := by
  have w8 := hI.2.1
  have p6 := hI.1
  have P8 := p2_8 w8
  have wpos := Nat.two_pow_pos H.wo
  refine fw_of hl0 ⟨by decide +kernel, by decide +kernel, by decide +kernel⟩ rfl ?_
  refine filb_0 hR hl0 _ (fiJ34_c hl0) (fun M1 e1 q1 => vp_in_nI (n := 0) (by decide) (by decide)) (fun M1 e1 q1 => ?_)
  have outer : ∀ (d p : Nat) (M1 : aM), p + d = H.pe → M1.2.2 = M.2.2 → (∀ a c, a ≠ 34 → M1.1 a c = M.1 a c) → (∀ t, t < 2 ^ H.wo → abO H H.cd p M1 t) → AW l (pI pg 16) (fcV M (QFl H M)) 0 0 18 [(4, .int (nI p)), (3, .ref 20), (2, .ref 30), (1, .ref 17), (0, .ref 33)] [] SHF M1 := by
    intro d
    induction d with
    | zero =>
      intro p M1 hp h1 h2 h3
      have ep : p = H.pe := by omega
      subst ep
      have le : M1.1 17 0 ≤ nI H.pe := by rw [h2 17 0 (by decide), hH.pe]; exact Int32.le_refl _
      exact filb_18 (by rw [h1]; exact hR) hl0 (fun _ => ⟨rfl, h1, rfl, h3, h2⟩) (fun _ _ => True) (fun h => absurd le h) (fun h => absurd le h)
    | succ d ih =>
      intro p M1 hp h1 h2 h3
      have ng : ¬ M1.1 17 0 ≤ nI p := by
        rw [h2 17 0 (by decide), hH.pe, nle (by omega) (by omega)]
        omega
      refine filb_18 (by rw [h1]; exact hR) hl0 (fun h => absurd h ng) (fun y M' => M' = M1 ∧ y = nI (2 ^ H.wo - 1)) (fun _ => alwb_c hl0 w8 (by rw [h2 17 1 (by decide), hH.wo])) (fun _ y3 M3 e3 q3 => ?_)
      obtain ⟨rfl, rfl⟩ := q3
      have inner : ∀ (n : Nat) (M2 : aM), n ≤ 2 ^ H.wo → M2.2.2 = M.2.2 → (∀ a c, a ≠ 34 → M2.1 a c = M.1 a c) → (∀ t, t < 2 ^ H.wo → n ≤ t → abO H H.cd (p + 1) M2 t) → (∀ t, t < n → abO H H.cd p M2 t) → AW l (pI pg 16) (fcV M (QFl H M)) 0 0 33 [(5, .int (sI n)), (4, .int (nI p)), (3, .ref 20), (2, .ref 30), (1, .ref 17), (0, .ref 33)] [] SHF M2 := by
        intro n
        induction n with
        | zero =>
          intro M2 hn g1 g2 g3 g4
          have lt : sI 0 < 0 := by decide
          refine filb_33 (by rw [g1]; exact hR) hl0 (fun _ => ?_) (fun h => absurd lt h) (fun _ _ => True) (fun h => absurd lt h) (fun h => absurd lt h) (fun h => absurd lt h)
          rw [show nI p + Int32.ofInt 1 = nI (p + 1) from nI_1 p]
          exact ih (p + 1) M2 (by omega) g1 g2 (fun t ht => g3 t ht (Nat.zero_le _))
        | succ n ihn =>
          intro M2 hn g1 g2 g3 g4
          have nl : ¬ nI n < 0 := by
            rw [show (0 : Int32) = nI 0 from rfl, nlt (by omega) (by decide)]
            omega
          have cp : (nI p).toNatClampNeg = p := nI_clamp (by omega)
          have c7 : M2.1 20 p = nI (H.cd p) := (g2 20 p (by decide)).trans (hH.cd p (by omega))
          have c5 : M2.1 18 p = nI (H.ho p) := (g2 18 p (by decide)).trans (hH.ho p (by omega))
          have cd8 := (hI.2.2.2.2.2.2.2.2.1 p (by omega)).1
          have h24 := hI.2.2.2.2.1 p (by omega)
          show AW l (pI pg 16) (fcV M (QFl H M)) 0 0 33 [(5, .int (nI n)), (4, .int (nI p)), (3, .ref 20), (2, .ref 30), (1, .ref 17), (0, .ref 33)] [] SHF M2
          refine filb_33 (by rw [g1]; exact hR) hl0 (fun h => absurd h nl) (fun _ => vp_in_nI (by omega) (by decide)) (fun f M' => M' = M2 ∧ whO H M2 n (n &&& H.cd p) (H.ho p) f) (fun _ => ?_) (fun _ y4 M4 e4 q4 => vp_in_nI (by omega) (by decide)) (fun _ y4 M4 e4 q4 => ?_)
          · rw [cp, c7, c5]
            exact whe_c hl0 (by rw [g1]; exact fun e he => hR e (rl_RRS e he)) w8 (fun t ht => by rw [g2 31 t (by decide)]; exact hs t ht) hsl (by omega) cd8 h24
          · obtain ⟨rfl, q4⟩ := q4
            rw [nI_clamp (n := n) (by omega), shW (show p ≤ 8 by omega), sI_dn (by omega)]
            have key := ab_next hI (cd := H.cd) (p := p) (n := n) (by omega) (by omega) (fun t h1 _ => g4 t (by omega)) q4
            refine ihn _ (by omega) g1 (fun a c ha => ?_) (fun t ht hnt => ?_) (fun t ht => ?_)
            · rw [asL_off ha]
              exact g2 a c ha
            · by_cases e : t = n
              · subst e
                intro lf hlf
                rw [asL_at]
                exact key lf hlf
              · exact abO_fr (g3 t ht (by omega)) (asL_ne e)
            · exact abO_fr (g4 t (by omega)) (asL_ne (by omega))
      have := inner (2 ^ H.wo) M3 (Nat.le_refl _) h1 h2 (fun t ht hn => absurd ht (Nat.not_lt.mpr hn)) h3
      rw [show sI (2 ^ H.wo) = nI (2 ^ H.wo - 1) by
        obtain ⟨k, hk⟩ : ∃ k, 2 ^ H.wo = k + 1 := ⟨2 ^ H.wo - 1, by omega⟩
        rw [hk]
        rfl] at this
      exact this
  refine outer H.pe 0 _ (by omega) e1 (fun a c ha => ?_) (fun t ht lf hlf => ?_)
  · rw [asL_off ha]
    exact q1.2 a c ha
  · rw [Nat.pow_zero]
    by_cases e : t = 0
    · subst e
      rw [show lgV (asL M1 34 (Int32.ofInt 0).toNatClampNeg (Int64.ofNat (1 : Fin 2))) 34 0 = Int64.ofNat (1 : Fin 2) from asL_at, show Int64.ofNat ((1 : Fin 2) : Nat) = 1 from rfl, bL_1, decide_eq_true_eq]
      exact ⟨fun h => ⟨by omega, rfl⟩, fun h => by omega⟩
    · rw [show lgV (asL M1 34 (Int32.ofInt 0).toNatClampNeg (Int64.ofNat (1 : Fin 2))) 34 t = lgV M1 34 t from asL_ne e, q1.1 t (by omega), show Int64.ofNat ((0 : Fin 2) : Nat) = 0 from rfl, bL_0]
      exact ⟨fun h => (by cases h), fun h => absurd h.2 e⟩
end LFT3
section LFT4
variable {l : aL} {M : aM} {H : HS}
theorem fiJ35_c (hl0 : l.1.stackTraces = false) {f : Int64} : AC l (pI pg 17) (fcV M (fun M' => (∀ k, k < 9 → lgV M' 35 k = f) ∧ ∀ a c, a ≠ 35 → M'.1 a c = M.1 a c)) 0 0 [.ref 35, .long f] SHF M := by
  refine fw_of hl0 ⟨by decide +kernel, by decide +kernel, by decide +kernel⟩ rfl ?_
  refine fiJ35_0 hl0 ?_
  have loop : ∀ (d i : Nat) (M1 : aM), i + d = 9 → M1.2.2 = M.2.2 → (∀ k, k < i → lgV M1 35 k = f) → (∀ a c, a ≠ 35 → M1.1 a c = M.1 a c) → AW l (pI pg 17) (fcV M (fun M' => (∀ k, k < 9 → lgV M' 35 k = f) ∧ ∀ a c, a ≠ 35 → M'.1 a c = M.1 a c)) 0 0 6 [(0, .ref 35), (1, .long f), (3, .int (nI i)), (4, .int (Int32.ofNat 9))] [] SHF M1 := by
    intro d
    induction d with
    | zero =>
      intro i M1 hi h1 h2 h3
      have ei : i = 9 := by omega
      subst ei
      have le : Int32.ofNat 9 ≤ nI 9 := Int32.le_refl _
      exact fiJ35_6 hl0 (fun _ => ⟨rfl, h1, rfl, h2, h3⟩) (fun h => absurd le h) (fun h => absurd le h)
    | succ d ih =>
      intro i M1 hi h1 h2 h3
      refine fiJ35_6 hl0 (fun h => ge_no (a := i) (b := 9) (by omega) (by decide) h) (fun _ => vp_in_nI (by omega) (by decide)) (fun _ => ?_)
      rw [nI_clamp (by omega), show nI i + Int32.ofInt 1 = nI (i + 1) from nI_1 i]
      refine ih (i + 1) _ (by omega) h1 (fun k hk => ?_) (fun a c ha => ?_)
      · by_cases e : k = i
        · subst e
          exact asL_at
        · rw [asL_ne e]
          exact h2 k (by omega)
      · rw [asL_off ha]
        exact h3 a c ha
  exact loop 9 0 M rfl rfl (fun k hk => absurd hk (Nat.not_lt_zero _)) (fun _ _ _ => rfl)
theorem lgc {x y : Int64} : lg_cmp x y = 0 ↔ x = y := by
  unfold lg_cmp
  constructor
  · intro h
    split at h
    · cases h
    · split at h
      · assumption
      · cases h
  · intro h
    subst h
    simp
def nbO (H : HS) (s : Nat) (M : aM) : Prop := ∀ k, k < 9 → ∀ lf, lf < 64 → (bL (lgV M 35 k) lf = true ↔ ∃ t, t < s ∧ pcN t = k ∧ bL (lgV M 34 t) lf = true)
def QSb (H : HS) (M M' : aM) : Prop := nbO H (2 ^ H.wo) M' ∧ ∀ a c, a ≠ 35 → M'.1 a c = M.1 a c
theorem sbna_c (hl0 : l.1.stackTraces = false) (hbc : ∀ (M' : aM), M'.2.2 = M.2.2 → ∀ (k : Nat), k < 256 → AC l (pI pg 21) (fcI M' (fun y M0 => M0 = M' ∧ y = nI (pcN k))) 0 0 [.int (nI k)] SHF M') (hR : ∀ e ∈ RR.2, M.2.2 e.1 e.2.1 = e.2.2) (w8 : H.wo ≤ 8) (hw : M.1 4 1 = nI H.wo) : AC l (pI pg 20) (fcV M (QSb H M)) 0 0 [.ref 33, .ref 4] SHF M := by
  have P8 := p2_8 w8
  have wpos := Nat.two_pow_pos H.wo
  refine fw_of hl0 ⟨by decide +kernel, by decide +kernel, by decide +kernel⟩ rfl ?_
  refine sbna_0 hR hl0 _ (fiJ35_c hl0) (fun M1 e1 q1 => ?_)
  have l34 : ∀ {M2 : aM}, (∀ a c, a ≠ 35 → M2.1 a c = M.1 a c) → ∀ t, lgV M2 34 t = lgV M 34 t := fun {M2} h t => by
    unfold lgV
    rw [h 34 _ (by decide), h 34 _ (by decide)]
  have loop : ∀ (d s : Nat) (M2 : aM), s + d = 2 ^ H.wo → M2.2.2 = M.2.2 → (∀ a c, a ≠ 35 → M2.1 a c = M.1 a c) → nbO H s M2 → AW l (pI pg 20) (fcV M (QSb H M)) 0 0 10 [(2, .int (nI s)), (1, .ref 4), (0, .ref 33)] [] SHF M2 := by
    intro d
    induction d with
    | zero =>
      intro s M2 hs g1 g2 g3
      have es : s = 2 ^ H.wo := by omega
      subst es
      have lt : nI (2 ^ H.wo - 1) < nI (2 ^ H.wo) := by
        rw [nlt (by omega) (by omega)]
        omega
      refine sbna_10 (by rw [g1]; exact hR) hl0 (fun y M' => M' = M2 ∧ y = nI (2 ^ H.wo - 1)) (alwa_c hl0 w8 (by rw [g2 4 1 (by decide), hw])) (fun y1 M3 e3 q3 _ => ?_) (fun _ _ _ _ => True) (fun y1 M3 e3 q3 h => ?_) (fun y1 M3 e3 q3 h => ?_) (fun y1 M3 e3 q3 h => ?_) (fun y1 M3 e3 q3 h => ?_)
      · obtain ⟨rfl, rfl⟩ := q3
        exact ⟨rfl, g1, rfl, g3, g2⟩
      all_goals
        obtain ⟨rfl, rfl⟩ := q3
        exact absurd lt h
    | succ d ih =>
      intro s M2 hs g1 g2 g3
      have nlt2 : ¬ nI (2 ^ H.wo - 1) < nI s := by
        rw [nlt (by omega) (by omega)]
        omega
      have p8 := pcN_le8 (k := s)
      refine sbna_10 (by rw [g1]; exact hR) hl0 (fun y M' => M' = M2 ∧ y = nI (2 ^ H.wo - 1)) (alwa_c hl0 w8 (by rw [g2 4 1 (by decide), hw])) (fun y1 M3 e3 q3 h => ?_) (fun _ M3 y M' => M' = M3 ∧ y = nI (pcN s)) (fun y1 M3 e3 q3 h => hbc M3 (e3.trans g1) s (by omega)) (fun y1 M3 e3 q3 h y5 M5 e5 q5 => ?_) (fun y1 M3 e3 q3 h y5 M5 e5 q5 => vp_in_nI (by omega) (by decide)) (fun y1 M3 e3 q3 h y5 M5 e5 q5 => ?_)
      · obtain ⟨rfl, rfl⟩ := q3
        exact absurd h nlt2
      · rw [q5.2]
        exact vp_in_nI (by omega) (by decide)
      · obtain ⟨rfl, rfl⟩ := q3
        obtain ⟨rfl, rfl⟩ := q5
        rw [nI_clamp (n := pcN s) (by omega), nI_clamp (n := s) (by omega), show nI s + Int32.ofInt 1 = nI (s + 1) from nI_1 s]
        have fr : ∀ a c, a ≠ 35 → (asL M5 35 (pcN s) (lgV M5 35 (pcN s) ||| lgV M5 34 s)).1 a c = M.1 a c := fun a c ha => (asL_off ha).trans (g2 a c ha)
        refine ih (s + 1) _ (by omega) g1 fr (fun k hk lf hlf => ?_)
        have e34 : ∀ t, lgV (asL M5 35 (pcN s) (lgV M5 35 (pcN s) ||| lgV M5 34 s)) 34 t = lgV M5 34 t := fun t => (l34 fr t).trans (l34 g2 t).symm
        by_cases e : k = pcN s
        · subst e
          rw [asL_at, bL_or, Bool.or_eq_true, g3 _ hk lf hlf]
          constructor
          · rintro (⟨t, t1, t2, t3⟩ | h)
            · exact ⟨t, by omega, t2, by rw [e34]; exact t3⟩
            · exact ⟨s, by omega, rfl, by rw [e34]; exact h⟩
          · rintro ⟨t, t1, t2, t3⟩
            rw [e34] at t3
            by_cases et : t = s
            · subst et
              exact Or.inr t3
            · exact Or.inl ⟨t, by omega, t2, t3⟩
        · rw [asL_ne e, g3 k hk lf hlf]
          constructor
          · rintro ⟨t, t1, t2, t3⟩
            exact ⟨t, by omega, t2, by rw [e34]; exact t3⟩
          · rintro ⟨t, t1, t2, t3⟩
            rw [e34] at t3
            have : t ≠ s := fun et => e (by rw [← t2, et])
            exact ⟨t, by omega, t2, t3⟩
  refine loop (2 ^ H.wo) 0 M1 (by omega) e1 q1.2 (fun k hk lf hlf => ?_)
  rw [q1.1 k hk, show Int64.ofNat ((0 : Fin 2) : Nat) = 0 from rfl, bL_0]
  exact ⟨fun h => (by cases h), fun ⟨t, h, _⟩ => absurd h (Nat.not_lt_zero _)⟩
theorem sbnb_c (hl0 : l.1.stackTraces = false) (hbc : ∀ (M' : aM), M'.2.2 = M.2.2 → ∀ (k : Nat), k < 256 → AC l (pI pg 21) (fcI M' (fun y M0 => M0 = M' ∧ y = nI (pcN k))) 0 0 [.int (nI k)] SHF M') (hR : ∀ e ∈ RRS.2, M.2.2 e.1 e.2.1 = e.2.2) (w8 : H.wo ≤ 8) (hw : M.1 17 1 = nI H.wo) : AC l (pI pg 20) (fcV M (QSb H M)) 0 0 [.ref 33, .ref 17] SHF M := by
  have P8 := p2_8 w8
  have wpos := Nat.two_pow_pos H.wo
  refine fw_of hl0 ⟨by decide +kernel, by decide +kernel, by decide +kernel⟩ rfl ?_
  refine sbnb_0 hR hl0 _ (fiJ35_c hl0) (fun M1 e1 q1 => ?_)
  have l34 : ∀ {M2 : aM}, (∀ a c, a ≠ 35 → M2.1 a c = M.1 a c) → ∀ t, lgV M2 34 t = lgV M 34 t := fun {M2} h t => by
    unfold lgV
    rw [h 34 _ (by decide), h 34 _ (by decide)]
  have loop : ∀ (d s : Nat) (M2 : aM), s + d = 2 ^ H.wo → M2.2.2 = M.2.2 → (∀ a c, a ≠ 35 → M2.1 a c = M.1 a c) → nbO H s M2 → AW l (pI pg 20) (fcV M (QSb H M)) 0 0 10 [(2, .int (nI s)), (1, .ref 17), (0, .ref 33)] [] SHF M2 := by
    intro d
    induction d with
    | zero =>
      intro s M2 hs g1 g2 g3
      have es : s = 2 ^ H.wo := by omega
      subst es
      have lt : nI (2 ^ H.wo - 1) < nI (2 ^ H.wo) := by
        rw [nlt (by omega) (by omega)]
        omega
      refine sbnb_10 (by rw [g1]; exact hR) hl0 (fun y M' => M' = M2 ∧ y = nI (2 ^ H.wo - 1)) (alwb_c hl0 w8 (by rw [g2 17 1 (by decide), hw])) (fun y1 M3 e3 q3 _ => ?_) (fun _ _ _ _ => True) (fun y1 M3 e3 q3 h => ?_) (fun y1 M3 e3 q3 h => ?_) (fun y1 M3 e3 q3 h => ?_) (fun y1 M3 e3 q3 h => ?_)
      · obtain ⟨rfl, rfl⟩ := q3
        exact ⟨rfl, g1, rfl, g3, g2⟩
      all_goals
        obtain ⟨rfl, rfl⟩ := q3
        exact absurd lt h
    | succ d ih =>
      intro s M2 hs g1 g2 g3
      have nlt2 : ¬ nI (2 ^ H.wo - 1) < nI s := by
        rw [nlt (by omega) (by omega)]
        omega
      have p8 := pcN_le8 (k := s)
      refine sbnb_10 (by rw [g1]; exact hR) hl0 (fun y M' => M' = M2 ∧ y = nI (2 ^ H.wo - 1)) (alwb_c hl0 w8 (by rw [g2 17 1 (by decide), hw])) (fun y1 M3 e3 q3 h => ?_) (fun _ M3 y M' => M' = M3 ∧ y = nI (pcN s)) (fun y1 M3 e3 q3 h => hbc M3 (e3.trans g1) s (by omega)) (fun y1 M3 e3 q3 h y5 M5 e5 q5 => ?_) (fun y1 M3 e3 q3 h y5 M5 e5 q5 => vp_in_nI (by omega) (by decide)) (fun y1 M3 e3 q3 h y5 M5 e5 q5 => ?_)
      · obtain ⟨rfl, rfl⟩ := q3
        exact absurd h nlt2
      · rw [q5.2]
        exact vp_in_nI (by omega) (by decide)
      · obtain ⟨rfl, rfl⟩ := q3
        obtain ⟨rfl, rfl⟩ := q5
        rw [nI_clamp (n := pcN s) (by omega), nI_clamp (n := s) (by omega), show nI s + Int32.ofInt 1 = nI (s + 1) from nI_1 s]
        have fr : ∀ a c, a ≠ 35 → (asL M5 35 (pcN s) (lgV M5 35 (pcN s) ||| lgV M5 34 s)).1 a c = M.1 a c := fun a c ha => (asL_off ha).trans (g2 a c ha)
        refine ih (s + 1) _ (by omega) g1 fr (fun k hk lf hlf => ?_)
        have e34 : ∀ t, lgV (asL M5 35 (pcN s) (lgV M5 35 (pcN s) ||| lgV M5 34 s)) 34 t = lgV M5 34 t := fun t => (l34 fr t).trans (l34 g2 t).symm
        by_cases e : k = pcN s
        · subst e
          rw [asL_at, bL_or, Bool.or_eq_true, g3 _ hk lf hlf]
          constructor
          · rintro (⟨t, t1, t2, t3⟩ | h)
            · exact ⟨t, by omega, t2, by rw [e34]; exact t3⟩
            · exact ⟨s, by omega, rfl, by rw [e34]; exact h⟩
          · rintro ⟨t, t1, t2, t3⟩
            rw [e34] at t3
            by_cases et : t = s
            · subst et
              exact Or.inr t3
            · exact Or.inl ⟨t, by omega, t2, t3⟩
        · rw [asL_ne e, g3 k hk lf hlf]
          constructor
          · rintro ⟨t, t1, t2, t3⟩
            exact ⟨t, by omega, t2, by rw [e34]; exact t3⟩
          · rintro ⟨t, t1, t2, t3⟩
            rw [e34] at t3
            have : t ≠ s := fun et => e (by rw [← t2, et])
            exact ⟨t, by omega, t2, t3⟩
  refine loop (2 ^ H.wo) 0 M1 (by omega) e1 q1.2 (fun k hk lf hlf => ?_)
  rw [q1.1 k hk, show Int64.ofNat ((0 : Fin 2) : Nat) = 0 from rfl, bL_0]
  exact ⟨fun h => (by cases h), fun ⟨t, h, _⟩ => absurd h (Nat.not_lt_zero _)⟩
end LFT4
section LFT5
variable {l : aL} {M : aM} {H : HS}
theorem gnu_bit {x : Int64} {lf : Nat} (h : lf < 64) : lg_cmp (((x.toUInt64 >>> ((nI lf).toInt64.toUInt64 &&& Int64.toUInt64 63)).toInt64) &&& (Int64.ofNat (1 : Fin 2))) (Int64.ofNat (0 : Fin 2)) = 0 ↔ bL x lf = false := by
  rw [lgc, show Int64.ofNat ((1 : Fin 2) : Nat) = 1 from rfl, show Int64.ofNat ((0 : Fin 2) : Nat) = 0 from rfl, bL_ne]
  rw [show nI lf = Int32.ofNat lf from rfl, bL_ushr h, Nat.add_zero]
theorem gnu_c (hl0 : l.1.stackTraces = false) (hR : ∀ e ∈ RL, M.2.2 e.1 e.2.1 = e.2.2) {cd : Nat → Nat} {lf N : Nat} (hlf : lf < 64) (hN : lf < 2 ^ N) (ha : ∀ t, t < 2 ^ H.wo → abO H cd N M t) (hn : nbO H (2 ^ H.wo) M) : AC l (pI pg 115) (fcI M (fun y M' => M' = M ∧ ∃ v, v ≤ 8 ∧ y = nI v ∧ mxO H cd lf N (2 ^ H.wo) v)) 0 0 [.ref 33, .int (nI lf)] SHF M := by
  have bit : ∀ k, k < 9 → (bL (lgV M 35 k) lf = true ↔ ∃ t, t < 2 ^ H.wo ∧ pcN t = k ∧ rea H cd lf N t) := fun k hk => by
    rw [hn k hk lf hlf]
    constructor
    · rintro ⟨t, t1, t2, t3⟩
      exact ⟨t, t1, t2, ((ha t t1 lf hlf).mp t3).2⟩
    · rintro ⟨t, t1, t2, t3⟩
      exact ⟨t, t1, t2, (ha t t1 lf hlf).mpr ⟨hN, t3⟩⟩
  refine fw_of hl0 ⟨by decide +kernel, by decide +kernel, by decide +kernel⟩ rfl ?_
  refine gnu_0 hR hl0 ?_
  have loop : ∀ (d k v : Nat), k + d = 9 → v ≤ 8 → v < k → (v = 0 ∨ ∃ t, t < 2 ^ H.wo ∧ rea H cd lf N t ∧ pcN t = v) → (∀ t, t < 2 ^ H.wo → rea H cd lf N t → pcN t < k → pcN t ≤ v) → AW l (pI pg 115) (fcI M (fun y M' => M' = M ∧ ∃ v, v ≤ 8 ∧ y = nI v ∧ mxO H cd lf N (2 ^ H.wo) v)) 0 0 4 [(3, .int (nI k)), (2, .int (nI v)), (1, .int (nI lf)), (0, .ref 33)] [] SHF M := by
    intro d
    induction d with
    | zero =>
      intro k v hk v8 vk h1 h2
      have ek : k = 9 := by omega
      subst ek
      have lt : (Int8.ofInt 8).toInt32 < nI 9 := by decide
      exact gnu_4 hR hl0 (fun _ => ⟨rfl, rfl, _, rfl, rfl, v, v8, rfl, h1, fun t ht hr => h2 t ht hr (by have := pcN_le8 (k := t); omega)⟩) (fun h => absurd lt h) (fun h => absurd lt h) (fun h => absurd lt h)
    | succ d ih =>
      intro k v hk v8 vk h1 h2
      have nl : ¬ (Int8.ofInt 8).toInt32 < nI k := by
        rw [z_8, nlt (by decide) (by omega)]
        omega
      refine gnu_4 hR hl0 (fun h => absurd h nl) (fun _ => vp_in_nI (by omega) (by decide)) (fun _ h4 => ?_) (fun _ h4 => ?_)
      · rw [nI_clamp (n := k) (by omega), gnu_bit hlf] at h4
        rw [show nI k + Int32.ofInt 1 = nI (k + 1) from nI_1 k]
        refine ih (k + 1) v (by omega) v8 (by omega) h1 (fun t ht hr hp => ?_)
        by_cases e : pcN t = k
        · have := (bit k (by omega)).mpr ⟨t, ht, e, hr⟩
          rw [this] at h4
          cases h4
        · exact h2 t ht hr (by omega)
      · rw [nI_clamp (n := k) (by omega), gnu_bit hlf, Bool.not_eq_false] at h4
        rw [show nI k + Int32.ofInt 1 = nI (k + 1) from nI_1 k]
        obtain ⟨t, t1, t2, t3⟩ := (bit k (by omega)).mp h4
        exact ih (k + 1) k (by omega) (by omega) (by omega) (Or.inr ⟨t, t1, t3, t2⟩) (fun t' _ _ hp => by omega)
  exact loop 8 1 0 rfl (by decide) (by decide) (Or.inl rfl) (fun t ht hr hp => by omega)
end LFT5
section LFT6
variable {l : aL} {M : aM} {H : HS}
theorem nm1' {v : Nat} (h : v < 2 ^ 31) : ¬ nI v = Int32.ofInt (-1) := fun e => by
  have := i_m1.mp e
  rw [nI_toInt h] at this
  omega
theorem inc_c (hl0 : l.1.stackTraces = false) (hR : ∀ e ∈ RL, M.2.2 e.1 e.2.1 = e.2.2) {t lf : Nat} (ht : t < 256) (hlf : lf < 64) : AC l (pI pg 119) (fcI M (fun y M' => M' = M ∧ ((y = Int32.ofInt 1 ∧ bL (lgV M 34 t) lf = true) ∨ (y = Int32.ofInt 0 ∧ bL (lgV M 34 t) lf = false)))) 0 0 [.ref 33, .int (nI t), .long ((Int64.ofNat (1 : Fin 2)) <<< ((nI lf).toInt64 &&& 63))] SHF M := by
  have key : ∀ x : Int64, lg_cmp (x &&& ((Int64.ofNat (1 : Fin 2)) <<< ((nI lf).toInt64 &&& 63))) ((Int64.ofNat (1 : Fin 2)) <<< ((nI lf).toInt64 &&& 63)) = 0 ↔ bL x lf = true := fun x => by
    rw [lgc, bL_inc]
    have e : ∀ i, bL ((Int64.ofNat (1 : Fin 2)) <<< ((nI lf).toInt64 &&& 63)) i = decide (i = lf) := fun i => bL_one hlf
    constructor
    · intro h
      exact h lf hlf (by rw [e]; exact decide_eq_true rfl)
    · intro h i _ hi
      rw [e, decide_eq_true_eq] at hi
      rw [hi]
      exact h
  refine fw_of hl0 ⟨by decide +kernel, by decide +kernel, by decide +kernel⟩ rfl ?_
  refine inc_0 hR hl0 (vp_in_nI (by omega) (by decide)) (fun h2 => ?_) (fun h2 => ?_)
  · rw [nI_clamp (by omega), key, Bool.not_eq_true] at h2
    exact ⟨rfl, rfl, _, rfl, rfl, Or.inr ⟨rfl, h2⟩⟩
  · rw [nI_clamp (by omega), key] at h2
    exact ⟨rfl, rfl, _, rfl, rfl, Or.inl ⟨rfl, h2⟩⟩
theorem suna_c (hl0 : l.1.stackTraces = false) (hbc : ∀ (M' : aM), M'.2.2 = M.2.2 → ∀ (k : Nat), k < 256 → AC l (pI pg 21) (fcI M' (fun y M0 => M0 = M' ∧ y = nI (pcN k))) 0 0 [.int (nI k)] SHF M') (hR : ∀ e ∈ RR.2, M.2.2 e.1 e.2.1 = e.2.2) (w8 : H.wo ≤ 8) (hw : M.1 4 1 = nI H.wo) {cd : Nat → Nat} {lf N : Nat} (hlf : lf < 64) (hN : lf < 2 ^ N) (ha : ∀ t, t < 2 ^ H.wo → abO H cd N M t) : AC l (pI pg 118) (fcI M (fun y M' => M' = M ∧ ∃ v, y = brV v ∧ brO H cd lf N (2 ^ H.wo) v)) 0 0 [.ref 33, .ref 4, .int (nI lf)] SHF M := by
  have P8 := p2_8 w8
  have wpos := Nat.two_pow_pos H.wo
  have bit : ∀ {t}, t < 2 ^ H.wo → (bL (lgV M 34 t) lf = true ↔ rea H cd lf N t) := fun {t} ht => (ha t ht lf hlf).trans ⟨fun h => h.2, fun h => ⟨hN, h⟩⟩
  refine fw_of hl0 ⟨by decide +kernel, by decide +kernel, by decide +kernel⟩ rfl ?_
  refine suna_0 hR hl0 ?_
  have loop : ∀ (d s : Nat) (v : Option Nat), s + d = 2 ^ H.wo → brO H cd lf N s v → AW l (pI pg 118) (fcI M (fun y M' => M' = M ∧ ∃ v, y = brV v ∧ brO H cd lf N (2 ^ H.wo) v)) 0 0 5 [(4, .int (nI s)), (3, .int (brV v)), (2, .int (nI lf)), (1, .ref 4), (0, .ref 33)] [] SHF M := by
    intro d
    induction d with
    | zero =>
      intro s v hs hx
      have es : s = 2 ^ H.wo := by omega
      subst es
      have lt : nI (2 ^ H.wo - 1) < nI (2 ^ H.wo) := by
        rw [nlt (by omega) (by omega)]
        omega
      refine suna_5 hR hl0 (fun y M' => M' = M ∧ y = nI (2 ^ H.wo - 1)) (alwa_c hl0 w8 hw) (fun y1 M1 e1 q1 _ => ?_) (fun _ _ _ _ => True) (fun y1 M1 e1 q1 h => ?_) (fun y1 M1 e1 q1 h => ?_) (fun y1 M1 e1 q1 h => ?_) (fun _ _ _ _ => True) (fun y1 M1 e1 q1 h => ?_) (fun _ _ _ _ _ _ => True) (fun y1 M1 e1 q1 h => ?_) (fun y1 M1 e1 q1 h => ?_) (fun _ _ _ _ _ _ _ _ => True) (fun y1 M1 e1 q1 h => ?_) (fun y1 M1 e1 q1 h => ?_) (fun y1 M1 e1 q1 h => ?_)
      · obtain ⟨rfl, rfl⟩ := q1
        exact ⟨rfl, rfl, _, rfl, rfl, v, rfl, hx⟩
      all_goals
        obtain ⟨rfl, rfl⟩ := q1
        exact absurd lt h
    | succ d ih =>
      intro s v hs hx
      have sl : s < 2 ^ H.wo := by omega
      have nl : ¬ nI (2 ^ H.wo - 1) < nI s := by
        rw [nlt (by omega) (by omega)]
        omega
      have nx : nI s + Int32.ofInt 1 = nI (s + 1) := nI_1 s
      have pl : ∀ t, pcN t ≤ 8 := fun t => pcN_le8
      refine suna_5 hR hl0 (fun y M' => M' = M ∧ y = nI (2 ^ H.wo - 1)) (alwa_c hl0 w8 hw) (fun y1 M1 e1 q1 h => ?_) (fun _ M1 y M' => M' = M1 ∧ ((y = Int32.ofInt 1 ∧ bL (lgV M1 34 s) lf = true) ∨ (y = Int32.ofInt 0 ∧ bL (lgV M1 34 s) lf = false))) (fun y1 M1 e1 q1 h h5 => ?_) (fun y1 M1 e1 q1 h h5 y7 M7 e7 q7 h9 => ?_) (fun y1 M1 e1 q1 h h5 y7 M7 e7 q7 h9 => ?_) (fun _ M1 y M' => M' = M1 ∧ y = nI (pcN s)) (fun y1 M1 e1 q1 h h5 => hbc M1 e1 s (by omega)) (fun _ _ _ M12 y M' => M' = M12 ∧ ∃ b, v = some b ∧ y = nI (pcN b)) (fun y1 M1 e1 q1 h h5 y12 M12 e12 q12 => ?_) (fun y1 M1 e1 q1 h h5 y12 M12 e12 q12 y14 M14 e14 q14 h16 => ?_) (fun _ _ _ _ _ M14 y M' => M' = M14 ∧ ((y = Int32.ofInt 1 ∧ bL (lgV M14 34 s) lf = true) ∨ (y = Int32.ofInt 0 ∧ bL (lgV M14 34 s) lf = false))) (fun y1 M1 e1 q1 h h5 y12 M12 e12 q12 y14 M14 e14 q14 h16 => ?_) (fun y1 M1 e1 q1 h h5 y12 M12 e12 q12 y14 M14 e14 q14 h16 y20 M20 e20 q20 h22 => ?_) (fun y1 M1 e1 q1 h h5 y12 M12 e12 q12 y14 M14 e14 q14 h16 y20 M20 e20 q20 h22 => ?_)
      · obtain ⟨rfl, rfl⟩ := q1
        exact absurd h nl
      · obtain ⟨rfl, -⟩ := q1
        exact inc_c hl0 (fun e he => hR e (rl_RR e he)) (by omega) hlf
      · obtain ⟨rfl, -⟩ := q1
        obtain ⟨rfl, q7⟩ := q7
        rw [nx]
        exact ih (s + 1) v (by omega) (br_keep hx ((bit sl).mp (q7.resolve_right (fun q => h9 q.1)).2))
      · obtain ⟨rfl, -⟩ := q1
        obtain ⟨rfl, q7⟩ := q7
        rw [nx]
        have nr : ¬ rea H cd lf N s := fun hr => by
          have := (q7.resolve_left (fun q => absurd (q.1.symm.trans h9) (by decide))).2
          rw [(bit sl).mpr hr] at this
          cases this
        cases v with
        | none => exact ih (s + 1) (some s) (by omega) (br_none hx nr)
        | some b => exact absurd h5 (nm1' (by have := hx.1; omega))
      · obtain ⟨rfl, -⟩ := q12
        cases v with
        | none => exact absurd rfl h5
        | some b =>
          have b1 := hx.1
          exact AC.post hl0 (fun r sh' M' hp => by
            obtain ⟨r1, r2, y, r3, r4, r5⟩ := hp
            exact ⟨r1, r2, y, r3, r4, b, rfl, r5⟩) (hbc M12 (e12.trans e1) b (by omega))
      · obtain ⟨rfl, -⟩ := q1
        obtain ⟨rfl, rfl⟩ := q12
        obtain ⟨rfl, b, rfl, rfl⟩ := q14
        have u1 := pl b
        have u2 := pl s
        rw [nle (by omega) (by omega)] at h16
        rw [nx]
        exact ih (s + 1) (some b) (by omega) (br_ge hx h16)
      · obtain ⟨rfl, -⟩ := q1
        obtain ⟨rfl, rfl⟩ := q12
        obtain ⟨rfl, -⟩ := q14
        exact inc_c hl0 (fun e he => hR e (rl_RR e he)) (by omega) hlf
      · obtain ⟨rfl, -⟩ := q1
        obtain ⟨rfl, rfl⟩ := q12
        obtain ⟨rfl, -⟩ := q14
        obtain ⟨rfl, q20⟩ := q20
        rw [nx]
        exact ih (s + 1) v (by omega) (br_keep hx ((bit sl).mp (q20.resolve_right (fun q => h22 q.1)).2))
      · obtain ⟨rfl, -⟩ := q1
        obtain ⟨rfl, rfl⟩ := q12
        obtain ⟨rfl, b, rfl, rfl⟩ := q14
        obtain ⟨rfl, q20⟩ := q20
        have u1 := pl b
        have u2 := pl s
        rw [nle (by omega) (by omega)] at h16
        rw [nx]
        have nr : ¬ rea H cd lf N s := fun hr => by
          have := (q20.resolve_left (fun q => absurd (q.1.symm.trans h22) (by decide))).2
          rw [(bit sl).mpr hr] at this
          cases this
        exact ih (s + 1) (some s) (by omega) (br_less hx nr (by omega))
  exact loop (2 ^ H.wo) 0 none (by omega) (fun t ht => absurd ht (Nat.not_lt_zero _))
theorem sunb_c (hl0 : l.1.stackTraces = false) (hbc : ∀ (M' : aM), M'.2.2 = M.2.2 → ∀ (k : Nat), k < 256 → AC l (pI pg 21) (fcI M' (fun y M0 => M0 = M' ∧ y = nI (pcN k))) 0 0 [.int (nI k)] SHF M') (hR : ∀ e ∈ RRS.2, M.2.2 e.1 e.2.1 = e.2.2) (w8 : H.wo ≤ 8) (hw : M.1 17 1 = nI H.wo) {cd : Nat → Nat} {lf N : Nat} (hlf : lf < 64) (hN : lf < 2 ^ N) (ha : ∀ t, t < 2 ^ H.wo → abO H cd N M t) : AC l (pI pg 118) (fcI M (fun y M' => M' = M ∧ ∃ v, y = brV v ∧ brO H cd lf N (2 ^ H.wo) v)) 0 0 [.ref 33, .ref 17, .int (nI lf)] SHF M := by
  have P8 := p2_8 w8
  have wpos := Nat.two_pow_pos H.wo
  have bit : ∀ {t}, t < 2 ^ H.wo → (bL (lgV M 34 t) lf = true ↔ rea H cd lf N t) := fun {t} ht => (ha t ht lf hlf).trans ⟨fun h => h.2, fun h => ⟨hN, h⟩⟩
  refine fw_of hl0 ⟨by decide +kernel, by decide +kernel, by decide +kernel⟩ rfl ?_
  refine sunb_0 hR hl0 ?_
  have loop : ∀ (d s : Nat) (v : Option Nat), s + d = 2 ^ H.wo → brO H cd lf N s v → AW l (pI pg 118) (fcI M (fun y M' => M' = M ∧ ∃ v, y = brV v ∧ brO H cd lf N (2 ^ H.wo) v)) 0 0 5 [(4, .int (nI s)), (3, .int (brV v)), (2, .int (nI lf)), (1, .ref 17), (0, .ref 33)] [] SHF M := by
    intro d
    induction d with
    | zero =>
      intro s v hs hx
      have es : s = 2 ^ H.wo := by omega
      subst es
      have lt : nI (2 ^ H.wo - 1) < nI (2 ^ H.wo) := by
        rw [nlt (by omega) (by omega)]
        omega
      refine sunb_5 hR hl0 (fun y M' => M' = M ∧ y = nI (2 ^ H.wo - 1)) (alwb_c hl0 w8 hw) (fun y1 M1 e1 q1 _ => ?_) (fun _ _ _ _ => True) (fun y1 M1 e1 q1 h => ?_) (fun y1 M1 e1 q1 h => ?_) (fun y1 M1 e1 q1 h => ?_) (fun _ _ _ _ => True) (fun y1 M1 e1 q1 h => ?_) (fun _ _ _ _ _ _ => True) (fun y1 M1 e1 q1 h => ?_) (fun y1 M1 e1 q1 h => ?_) (fun _ _ _ _ _ _ _ _ => True) (fun y1 M1 e1 q1 h => ?_) (fun y1 M1 e1 q1 h => ?_) (fun y1 M1 e1 q1 h => ?_)
      · obtain ⟨rfl, rfl⟩ := q1
        exact ⟨rfl, rfl, _, rfl, rfl, v, rfl, hx⟩
      all_goals
        obtain ⟨rfl, rfl⟩ := q1
        exact absurd lt h
    | succ d ih =>
      intro s v hs hx
      have sl : s < 2 ^ H.wo := by omega
      have nl : ¬ nI (2 ^ H.wo - 1) < nI s := by
        rw [nlt (by omega) (by omega)]
        omega
      have nx : nI s + Int32.ofInt 1 = nI (s + 1) := nI_1 s
      have pl : ∀ t, pcN t ≤ 8 := fun t => pcN_le8
      refine sunb_5 hR hl0 (fun y M' => M' = M ∧ y = nI (2 ^ H.wo - 1)) (alwb_c hl0 w8 hw) (fun y1 M1 e1 q1 h => ?_) (fun _ M1 y M' => M' = M1 ∧ ((y = Int32.ofInt 1 ∧ bL (lgV M1 34 s) lf = true) ∨ (y = Int32.ofInt 0 ∧ bL (lgV M1 34 s) lf = false))) (fun y1 M1 e1 q1 h h5 => ?_) (fun y1 M1 e1 q1 h h5 y7 M7 e7 q7 h9 => ?_) (fun y1 M1 e1 q1 h h5 y7 M7 e7 q7 h9 => ?_) (fun _ M1 y M' => M' = M1 ∧ y = nI (pcN s)) (fun y1 M1 e1 q1 h h5 => hbc M1 e1 s (by omega)) (fun _ _ _ M12 y M' => M' = M12 ∧ ∃ b, v = some b ∧ y = nI (pcN b)) (fun y1 M1 e1 q1 h h5 y12 M12 e12 q12 => ?_) (fun y1 M1 e1 q1 h h5 y12 M12 e12 q12 y14 M14 e14 q14 h16 => ?_) (fun _ _ _ _ _ M14 y M' => M' = M14 ∧ ((y = Int32.ofInt 1 ∧ bL (lgV M14 34 s) lf = true) ∨ (y = Int32.ofInt 0 ∧ bL (lgV M14 34 s) lf = false))) (fun y1 M1 e1 q1 h h5 y12 M12 e12 q12 y14 M14 e14 q14 h16 => ?_) (fun y1 M1 e1 q1 h h5 y12 M12 e12 q12 y14 M14 e14 q14 h16 y20 M20 e20 q20 h22 => ?_) (fun y1 M1 e1 q1 h h5 y12 M12 e12 q12 y14 M14 e14 q14 h16 y20 M20 e20 q20 h22 => ?_)
      · obtain ⟨rfl, rfl⟩ := q1
        exact absurd h nl
      · obtain ⟨rfl, -⟩ := q1
        exact inc_c hl0 (fun e he => hR e (rl_RRS e he)) (by omega) hlf
      · obtain ⟨rfl, -⟩ := q1
        obtain ⟨rfl, q7⟩ := q7
        rw [nx]
        exact ih (s + 1) v (by omega) (br_keep hx ((bit sl).mp (q7.resolve_right (fun q => h9 q.1)).2))
      · obtain ⟨rfl, -⟩ := q1
        obtain ⟨rfl, q7⟩ := q7
        rw [nx]
        have nr : ¬ rea H cd lf N s := fun hr => by
          have := (q7.resolve_left (fun q => absurd (q.1.symm.trans h9) (by decide))).2
          rw [(bit sl).mpr hr] at this
          cases this
        cases v with
        | none => exact ih (s + 1) (some s) (by omega) (br_none hx nr)
        | some b => exact absurd h5 (nm1' (by have := hx.1; omega))
      · obtain ⟨rfl, -⟩ := q12
        cases v with
        | none => exact absurd rfl h5
        | some b =>
          have b1 := hx.1
          exact AC.post hl0 (fun r sh' M' hp => by
            obtain ⟨r1, r2, y, r3, r4, r5⟩ := hp
            exact ⟨r1, r2, y, r3, r4, b, rfl, r5⟩) (hbc M12 (e12.trans e1) b (by omega))
      · obtain ⟨rfl, -⟩ := q1
        obtain ⟨rfl, rfl⟩ := q12
        obtain ⟨rfl, b, rfl, rfl⟩ := q14
        have u1 := pl b
        have u2 := pl s
        rw [nle (by omega) (by omega)] at h16
        rw [nx]
        exact ih (s + 1) (some b) (by omega) (br_ge hx h16)
      · obtain ⟨rfl, -⟩ := q1
        obtain ⟨rfl, rfl⟩ := q12
        obtain ⟨rfl, -⟩ := q14
        exact inc_c hl0 (fun e he => hR e (rl_RRS e he)) (by omega) hlf
      · obtain ⟨rfl, -⟩ := q1
        obtain ⟨rfl, rfl⟩ := q12
        obtain ⟨rfl, -⟩ := q14
        obtain ⟨rfl, q20⟩ := q20
        rw [nx]
        exact ih (s + 1) v (by omega) (br_keep hx ((bit sl).mp (q20.resolve_right (fun q => h22 q.1)).2))
      · obtain ⟨rfl, -⟩ := q1
        obtain ⟨rfl, rfl⟩ := q12
        obtain ⟨rfl, b, rfl, rfl⟩ := q14
        obtain ⟨rfl, q20⟩ := q20
        have u1 := pl b
        have u2 := pl s
        rw [nle (by omega) (by omega)] at h16
        rw [nx]
        have nr : ¬ rea H cd lf N s := fun hr => by
          have := (q20.resolve_left (fun q => absurd (q.1.symm.trans h22) (by decide))).2
          rw [(bit sl).mpr hr] at this
          cases this
        exact ih (s + 1) (some s) (by omega) (br_less hx nr (by omega))
  exact loop (2 ^ H.wo) 0 none (by omega) (fun t ht => absurd ht (Nat.not_lt_zero _))
end LFT6
