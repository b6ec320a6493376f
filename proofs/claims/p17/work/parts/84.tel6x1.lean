/-! THE LEFTS OF LEARNING: as those of the house, in rows of their own -/
/-! THE CLASS'S LEFTS: for each set of works who can do it, a bit for each who may be left -/
theorem set_J {M : aM} {a k : Nat} {x : Int64} (b c : Nat) : (aset M a k (.long x)).2.1 b c = if b = a then (if c = k then x else M.2.1 b c) else M.2.1 b c := rfl
section LG40
variable {M : aM} {H : HS}
/-- able: the people below p -/
def ab4 (H : HS) (cd : Nat → Nat) (p : Nat) (M : aM) (t : Nat) : Prop := ∀ lf, lf < 64 → (bL (M.2.1 42 t) lf = true ↔ lf < 2 ^ p ∧ rea H cd lf p t)
end LG40
section LG41
variable {l : aL} {M : aM} {H : HS}
/-- what withHelp gathers: his parts of the set, and none -/
def wo4 (H : HS) (M : aM) (t own m : Nat) (f : Int64) : Prop := ∀ lf, lf < 64 → (bL f lf = true ↔ bL (M.2.1 42 t) lf = true ∨ ∃ a, 0 < a ∧ a &&& own = a ∧ fit H a m ∧ bL (M.2.1 42 (t ^^^ a)) lf = true)
theorem wh4_c (hl0 : l.1.stackTraces = false) (hR : ∀ e ∈ RL4, M.2.2 e.1 e.2.1 = e.2.2) (w8 : H.wo ≤ 8) (hs : ∀ t, t < 2 ^ H.wo → ((noC H H.wo t ∧ M.1 31 t = nI (sumL H H.wo t)) ∨ (¬ noC H H.wo t ∧ M.1 31 t = nI 99))) (hsl : ∀ t, sumL H H.wo t ≤ 64) {t c m : Nat} (ht : t < 2 ^ H.wo) (hc : c < 256) (hm : m ≤ 24) : AC l (pI pg 19) (fcJ M (fun f M' => M' = M ∧ wo4 H M t (t &&& c) m f)) 0 0 [.ref 41, .ref 30, .int (nI t), .int (nI c), .int (nI m)] SHF M := by
  have P8 := p2_8 w8
  refine fw_of hl0 ⟨by decide +kernel, by decide +kernel, by decide +kernel⟩ rfl ?_
  refine wh4_0 hR hl0 (vp_in_nI (by omega) (by decide)) ?_
  rw [nI_andN (by omega) (by omega), nI_clamp (by omega)]
  have own_lt : t &&& c ≤ t := Nat.and_le_left
  generalize ho : t &&& c = own at *
  have ost : sbs own t := fun w hw => by
    rw [← ho, Nat.testBit_and, Bool.and_eq_true] at hw
    exact hw.1
  have loop : ∀ (n v : Nat) (f : Int64), v ≤ n → v &&& own = v → (∀ lf, lf < 64 → (bL f lf = true ↔ bL (M.2.1 42 t) lf = true ∨ ∃ a, v < a ∧ a &&& own = a ∧ fit H a m ∧ bL (M.2.1 42 (t ^^^ a)) lf = true)) → AW l (pI pg 19) (fcJ M (fun f M' => M' = M ∧ wo4 H M t own m f)) 0 0 17 [(8, .int (nI v)), (6, .long f), (5, .int (nI own)), (4, .int (nI m)), (3, .int (nI c)), (2, .int (nI t)), (1, .ref 30), (0, .ref 41)] [] SHF M := by
    intro n
    induction n with
    | zero =>
      intro v f hv hvo hf
      have ev : v = 0 := by omega
      subst ev
      have le : nI 0 ≤ 0 := Int32.le_refl _
      exact wh4_17 hR hl0 (fun _ => ⟨rfl, rfl, _, rfl, rfl, hf⟩) (fun h => absurd le h) (fun h => absurd le h) (fun h => absurd le h) (fun h => absurd le h)
    | succ n ih =>
      intro v f hv hvo hf
      by_cases v0 : v = 0
      · exact ih v f (by omega) hvo hf
      have vo : v ≤ own := by rw [← hvo]; exact Nat.and_le_right
      have nle0 : ¬ nI v ≤ 0 := by
        rw [show (0 : Int32) = nI 0 from rfl, nle (by omega) (by decide)]
        omega
      have nv : (nI v - Int32.ofInt 1) &&& nI own = nI ((v - 1) &&& own) := by
        rw [show nI v - Int32.ofInt 1 = nI (v - 1) from nI_subN (b := 1) (by omega) (by omega), nI_andN (by omega) (by omega)]
      have vt : sbs v t := fun w hw => ost w (sbs_and.mpr hvo w hw)
      have vlt : v < 2 ^ H.wo := by omega
      have cv : (nI v).toNatClampNeg = v := nI_clamp (by omega)
      have v1 : (v - 1) &&& own < v := Nat.lt_of_le_of_lt Nat.and_le_left (by omega)
      have vn : ((v - 1) &&& own) &&& own = (v - 1) &&& own := by rw [Nat.and_assoc, Nat.and_self]
      have fitv : nI m < M.1 31 v ↔ ¬ fit H v m := by
        have := hsl v
        rcases hs v vlt with ⟨u1, u2⟩ | ⟨u1, u2⟩
        · rw [u2, nlt (by omega) (by omega)]
          exact ⟨fun h g => by have := g.2; omega, fun h => Nat.lt_of_not_le fun g => h ⟨u1, g⟩⟩
        · rw [u2, nlt (by omega) (by decide)]
          exact ⟨fun _ g => u1 g.1, fun _ => by omega⟩
      have step : ∀ a, (v - 1) &&& own < a → a &&& own = a → v < a ∨ a = v := fun a h1 h2 => by
        by_cases e : a < v
        · have := sub_next v own a hvo h2 e
          omega
        · omega
      refine wh4_17 hR hl0 (fun h => absurd h nle0) (fun _ => vp_in_nI (by omega) (by decide)) (fun _ h4 => ?_) (fun _ _ => ?_) (fun _ h4 => ?_)
      · rw [cv, fitv] at h4
        rw [nv]
        refine ih _ f (by omega) vn (fun lf hlf => (hf lf hlf).trans (or_congr Iff.rfl ⟨?_, ?_⟩))
        · rintro ⟨a, a1, a2⟩
          exact ⟨a, by omega, a2⟩
        · rintro ⟨a, a1, a2, a3, a4⟩
          rcases step a a1 a2 with h | h
          · exact ⟨a, h, a2, a3, a4⟩
          · rw [h] at a3
            exact absurd a3 h4
      · have xl : t ^^^ v < 256 := Nat.xor_lt_two_pow (n := 8) (by omega) (by omega)
        rw [nI_xorN (by omega) (by omega)]
        exact vp_in_nI xl (by decide)
      · have xl : t ^^^ v < 256 := Nat.xor_lt_two_pow (n := 8) (by omega) (by omega)
        rw [cv, fitv, Classical.not_not] at h4
        rw [nv, nI_xorN (by omega) (by omega), nI_clamp (by omega)]
        refine ih _ _ (by omega) vn (fun lf hlf => ?_)
        rw [bL_or, Bool.or_eq_true, hf lf hlf]
        constructor
        · rintro ((h | ⟨a, a1, a2⟩) | h)
          · exact Or.inl h
          · exact Or.inr ⟨a, by omega, a2⟩
          · exact Or.inr ⟨v, v1, hvo, h4, h⟩
        · rintro (h | ⟨a, a1, a2, a3, a4⟩)
          · exact Or.inl (Or.inl h)
          · rcases step a a1 a2 with h | h
            · exact Or.inl (Or.inr ⟨a, h, a2, a3, a4⟩)
            · rw [h] at a4
              exact Or.inr a4
  refine loop own own _ (Nat.le_refl _) (Nat.and_self _) (fun lf hlf => ⟨Or.inl, fun h => h.elim id ?_⟩)
  rintro ⟨a, a1, a2, -⟩
  have : a ≤ own := by rw [← a2]; exact Nat.and_le_right
  omega
end LG41
section LG42
variable {l : aL} {M : aM} {H : HS}
theorem fiJ42_c (hl0 : l.1.stackTraces = false) {f : Int64} : AC l (pI pg 17) (fcV M (fun M' => (∀ k, k < 256 → M'.2.1 42 k = f) ∧ ∀ a c, a ≠ 42 → M'.1 a c = M.1 a c)) 0 0 [.ref 42, .long f] SHF M := by
  refine fw_of hl0 ⟨by decide +kernel, by decide +kernel, by decide +kernel⟩ rfl ?_
  refine fiJ42_0 hl0 ?_
  have loop : ∀ (d i : Nat) (M1 : aM), i + d = 256 → M1.2.2 = M.2.2 → (∀ k, k < i → M1.2.1 42 k = f) → (∀ a c, a ≠ 42 → M1.1 a c = M.1 a c) → AW l (pI pg 17) (fcV M (fun M' => (∀ k, k < 256 → M'.2.1 42 k = f) ∧ ∀ a c, a ≠ 42 → M'.1 a c = M.1 a c)) 0 0 6 [(0, .ref 42), (1, .long f), (3, .int (nI i)), (4, .int (Int32.ofNat 256))] [] SHF M1 := by
    intro d
    induction d with
    | zero =>
      intro i M1 hi h1 h2 h3
      have ei : i = 256 := by omega
      subst ei
      have le : Int32.ofNat 256 ≤ nI 256 := Int32.le_refl _
      exact fiJ42_6 hl0 (fun _ => ⟨rfl, h1, rfl, h2, h3⟩) (fun h => absurd le h) (fun h => absurd le h)
    | succ d ih =>
      intro i M1 hi h1 h2 h3
      refine fiJ42_6 hl0 (fun h => ge_no (a := i) (b := 256) (by omega) (by decide) h) (fun _ => vp_in_nI (by omega) (by decide)) (fun _ => ?_)
      rw [nI_clamp (by omega), show nI i + Int32.ofInt 1 = nI (i + 1) from nI_1 i]
      refine ih (i + 1) _ (by omega) h1 (fun k hk => ?_) (fun a c ha => ?_)
      · by_cases e : k = i
        · subst e
          rw [set_J, if_pos rfl, if_pos rfl]
        · rw [set_J, if_pos rfl, if_neg e]
          exact h2 k (by omega)
      · exact h3 a c ha
  exact loop 256 0 M rfl rfl (fun k hk => absurd hk (Nat.not_lt_zero _)) (fun _ _ _ => rfl)
/-- one more person -/
theorem ab4_next (hI : HI H) {cd : Nat → Nat} {p n : Nat} (hp : p < 6) (hn : n < 2 ^ H.wo) {f : Int64} (ho : ∀ t, t ≤ n → t < 2 ^ H.wo → ab4 H cd p M t) (hf : wo4 H M n (n &&& cd p) (H.ho p) f) : ∀ lf, lf < 64 → (bL (M.2.1 42 n ||| (f <<< ((Int32.ofNat (2 ^ p)).toInt64 &&& 63))) lf = true ↔ lf < 2 ^ (p + 1) ∧ rea H cd lf (p + 1) n) := by
  intro lf hlf
  have P : 2 ^ p ≤ 2 ^ 5 := Nat.pow_le_pow_right (by decide) (by omega)
  have Pp := Nat.two_pow_pos p
  have P2 : 2 ^ (p + 1) = 2 ^ p + 2 ^ p := by rw [Nat.pow_succ]; omega
  rw [bL_or, Bool.or_eq_true, bL_shl (by omega), ho n (Nat.le_refl _) hn lf hlf]
  by_cases h1 : lf < 2 ^ p
  · rw [decide_eq_true h1, Bool.not_true, Bool.and_false, Bool.false_and, rea_skip h1]
    constructor
    · rintro (⟨a, b⟩ | a)
      · exact ⟨by omega, b⟩
      · cases a
    · rintro ⟨-, b⟩
      exact Or.inl ⟨h1, b⟩
  · obtain ⟨k, rfl⟩ : ∃ k, lf = k + 2 ^ p := ⟨lf - 2 ^ p, by omega⟩
    rw [decide_eq_true hlf, decide_eq_false h1, Bool.not_false, Bool.and_true, Bool.true_and, Nat.add_sub_cancel, hf k (by omega), ho n (Nat.le_refl _) hn k (by omega)]
    constructor
    · rintro (⟨a, -⟩ | ⟨a, b⟩ | ⟨a, a1, a2, a3, a4⟩)
      · omega
      · exact ⟨by omega, (rea_with a hn).mpr (Or.inl b)⟩
      · have as : sbs a n := fun w hw => by
          have := sbs_and.mpr a2 w hw
          rw [Nat.testBit_and, Bool.and_eq_true] at this
          exact this.1
        have lt : n ^^^ a ≤ n := Nat.le_of_testBit (fun i hi => by
          rw [Nat.testBit_xor] at hi
          cases e : n.testBit i with
          | true => rfl
          | false =>
            rw [e, Bool.false_xor] at hi
            rw [as i hi] at e
            cases e)
        rw [ho (n ^^^ a) lt (by omega) k (by omega)] at a4
        exact ⟨by omega, (rea_with a4.1 hn).mpr (Or.inr ⟨a, a1, a2, a3, a4.2⟩)⟩
    · rintro ⟨a, b⟩
      have kl : k < 2 ^ p := by omega
      rcases (rea_with kl hn).mp b with b | ⟨a, a1, a2, a3, a4⟩
      · exact Or.inr (Or.inl ⟨kl, b⟩)
      · have as : sbs a n := fun w hw => by
          have := sbs_and.mpr a2 w hw
          rw [Nat.testBit_and, Bool.and_eq_true] at this
          exact this.1
        have lt : n ^^^ a ≤ n := Nat.le_of_testBit (fun i hi => by
          rw [Nat.testBit_xor] at hi
          cases e : n.testBit i with
          | true => rfl
          | false =>
            rw [e, Bool.false_xor] at hi
            rw [as i hi] at e
            cases e)
        exact Or.inr (Or.inr ⟨a, a1, a2, a3, (ho (n ^^^ a) lt (by omega) k (by omega)).mpr ⟨kl, a4⟩⟩)
end LG42
section LG43
variable {l : aL} {M : aM} {H : HS}
def QF4 (H : HS) (cd : Nat → Nat) (M M' : aM) : Prop := (∀ t, t < 2 ^ H.wo → ab4 H cd H.pe M' t) ∧ ∀ a c, a ≠ 42 → M'.1 a c = M.1 a c
theorem ab4_fr {M' : aM} {cd : Nat → Nat} {p t : Nat} (h : ab4 H cd p M t) (e : M'.2.1 42 t = M.2.1 42 t) : ab4 H cd p M' t := fun lf hlf => by
  rw [e]
  exact h lf hlf
theorem fi4a_c (hl0 : l.1.stackTraces = false) (hR : ∀ e ∈ RR.2, M.2.2 e.1 e.2.1 = e.2.2) (hI : HI H) (hH : cHo 4 H M) {cd : Nat → Nat} (hC : ∀ p, p < H.pe → M.1 44 p = nI (cd p)) (hC8 : ∀ p, p < H.pe → cd p < 256) (hs : ∀ t, t < 2 ^ H.wo → ((noC H H.wo t ∧ M.1 31 t = nI (sumL H H.wo t)) ∨ (¬ noC H H.wo t ∧ M.1 31 t = nI 99))) (hsl : ∀ t, sumL H H.wo t ≤ 64) : AC l (pI pg 16) (fcV M (QF4 H cd M)) 0 0 [.ref 41, .ref 4, .ref 30, .ref 44] SHF M := by
  have w8 := hI.2.1
  have p6 := hI.1
  have P8 := p2_8 w8
  have wpos := Nat.two_pow_pos H.wo
  refine fw_of hl0 ⟨by decide +kernel, by decide +kernel, by decide +kernel⟩ rfl ?_
  refine fi4a_0 hR hl0 _ (fiJ42_c hl0) (fun M1 e1 q1 => vp_in_nI (n := 0) (by decide) (by decide)) (fun M1 e1 q1 => ?_)
  have outer : ∀ (d p : Nat) (M1 : aM), p + d = H.pe → M1.2.2 = M.2.2 → (∀ a c, a ≠ 42 → M1.1 a c = M.1 a c) → (∀ t, t < 2 ^ H.wo → ab4 H cd p M1 t) → AW l (pI pg 16) (fcV M (QF4 H cd M)) 0 0 18 [(4, .int (nI p)), (3, .ref 44), (2, .ref 30), (1, .ref 4), (0, .ref 41)] [] SHF M1 := by
    intro d
    induction d with
    | zero =>
      intro p M1 hp h1 h2 h3
      have ep : p = H.pe := by omega
      subst ep
      have le : M1.1 4 0 ≤ nI H.pe := by rw [h2 4 0 (by decide), hH.pe]; exact Int32.le_refl _
      exact fi4a_18 (by rw [h1]; exact hR) hl0 (fun _ => ⟨rfl, h1, rfl, h3, h2⟩) (fun _ _ => True) (fun h => absurd le h) (fun h => absurd le h)
    | succ d ih =>
      intro p M1 hp h1 h2 h3
      have ng : ¬ M1.1 4 0 ≤ nI p := by
        rw [h2 4 0 (by decide), hH.pe, nle (by omega) (by omega)]
        omega
      refine fi4a_18 (by rw [h1]; exact hR) hl0 (fun h => absurd h ng) (fun y M' => M' = M1 ∧ y = nI (2 ^ H.wo - 1)) (fun _ => alwa_c hl0 w8 (by rw [h2 4 1 (by decide), hH.wo])) (fun _ y3 M3 e3 q3 => ?_)
      obtain ⟨rfl, rfl⟩ := q3
      have inner : ∀ (n : Nat) (M2 : aM), n ≤ 2 ^ H.wo → M2.2.2 = M.2.2 → (∀ a c, a ≠ 42 → M2.1 a c = M.1 a c) → (∀ t, t < 2 ^ H.wo → n ≤ t → ab4 H cd (p + 1) M2 t) → (∀ t, t < n → ab4 H cd p M2 t) → AW l (pI pg 16) (fcV M (QF4 H cd M)) 0 0 33 [(5, .int (sI n)), (4, .int (nI p)), (3, .ref 44), (2, .ref 30), (1, .ref 4), (0, .ref 41)] [] SHF M2 := by
        intro n
        induction n with
        | zero =>
          intro M2 hn g1 g2 g3 g4
          have lt : sI 0 < 0 := by decide
          refine fi4a_33 (by rw [g1]; exact hR) hl0 (fun _ => ?_) (fun h => absurd lt h) (fun _ _ => True) (fun h => absurd lt h) (fun h => absurd lt h) (fun h => absurd lt h)
          rw [show nI p + Int32.ofInt 1 = nI (p + 1) from nI_1 p]
          exact ih (p + 1) M2 (by omega) g1 g2 (fun t ht => g3 t ht (Nat.zero_le _))
        | succ n ihn =>
          intro M2 hn g1 g2 g3 g4
          have nl : ¬ nI n < 0 := by
            rw [show (0 : Int32) = nI 0 from rfl, nlt (by omega) (by decide)]
            omega
          have cp : (nI p).toNatClampNeg = p := nI_clamp (by omega)
          have c7 : M2.1 44 p = nI (cd p) := (g2 44 p (by decide)).trans (hC p (by omega))
          have c5 : M2.1 5 p = nI (H.ho p) := (g2 5 p (by decide)).trans (hH.ho p (by omega))
          have cd8 := hC8 p (by omega)
          have h24 := hI.2.2.2.2.1 p (by omega)
          show AW l (pI pg 16) (fcV M (QF4 H cd M)) 0 0 33 [(5, .int (nI n)), (4, .int (nI p)), (3, .ref 44), (2, .ref 30), (1, .ref 4), (0, .ref 41)] [] SHF M2
          refine fi4a_33 (by rw [g1]; exact hR) hl0 (fun h => absurd h nl) (fun _ => vp_in_nI (by omega) (by decide)) (fun f M' => M' = M2 ∧ wo4 H M2 n (n &&& cd p) (H.ho p) f) (fun _ => ?_) (fun _ y4 M4 e4 q4 => vp_in_nI (by omega) (by decide)) (fun _ y4 M4 e4 q4 => ?_)
          · rw [cp, c7, c5]
            exact wh4_c hl0 (by rw [g1]; exact fun e he => hR e (rl4_RR e he)) w8 (fun t ht => by rw [g2 31 t (by decide)]; exact hs t ht) hsl (by omega) cd8 h24
          · obtain ⟨rfl, q4⟩ := q4
            rw [nI_clamp (n := n) (by omega), shW (show p ≤ 8 by omega), sI_dn (by omega)]
            have key := ab4_next hI (cd := cd) (p := p) (n := n) (by omega) (by omega) (fun t h1 _ => g4 t (by omega)) q4
            refine ihn _ (by omega) g1 (fun a c ha => ?_) (fun t ht hnt => ?_) (fun t ht => ?_)
            · exact g2 a c ha
            · by_cases e : t = n
              · subst e
                intro lf hlf
                rw [set_J, if_pos rfl, if_pos rfl]
                exact key lf hlf
              · exact ab4_fr (g3 t ht (by omega)) (by rw [set_J, if_pos rfl, if_neg e])
            · exact ab4_fr (g4 t (by omega)) (by rw [set_J, if_pos rfl, if_neg (by omega)])
      have := inner (2 ^ H.wo) M3 (Nat.le_refl _) h1 h2 (fun t ht hn => absurd ht (Nat.not_lt.mpr hn)) h3
      rw [show sI (2 ^ H.wo) = nI (2 ^ H.wo - 1) by
        obtain ⟨k, hk⟩ : ∃ k, 2 ^ H.wo = k + 1 := ⟨2 ^ H.wo - 1, by omega⟩
        rw [hk]
        rfl] at this
      exact this
  refine outer H.pe 0 _ (by omega) e1 (fun a c ha => ?_) (fun t ht lf hlf => ?_)
  · exact q1.2 a c ha
  · rw [Nat.pow_zero]
    by_cases e : t = 0
    · subst e
      rw [set_J, if_pos rfl, if_pos (show 0 = (Int32.ofInt 0).toNatClampNeg by decide), show Int64.ofNat ((1 : Fin 2) : Nat) = 1 from rfl, bL_1, decide_eq_true_eq]
      exact ⟨fun h => ⟨by omega, rfl⟩, fun h => by omega⟩
    · rw [set_J, if_pos rfl, if_neg (show ¬ t = (Int32.ofInt 0).toNatClampNeg from e), q1.1 t (by omega), show Int64.ofNat ((0 : Fin 2) : Nat) = 0 from rfl, bL_0]
      exact ⟨fun h => (by cases h), fun h => absurd h.2 e⟩
theorem fi4b_c (hl0 : l.1.stackTraces = false) (hR : ∀ e ∈ RRS.2, M.2.2 e.1 e.2.1 = e.2.2) (hI : HI H) (hH : cHo 17 H M) {cd : Nat → Nat} (hC : ∀ p, p < H.pe → M.1 44 p = nI (cd p)) (hC8 : ∀ p, p < H.pe → cd p < 256) (hs : ∀ t, t < 2 ^ H.wo → ((noC H H.wo t ∧ M.1 31 t = nI (sumL H H.wo t)) ∨ (¬ noC H H.wo t ∧ M.1 31 t = nI 99))) (hsl : ∀ t, sumL H H.wo t ≤ 64) : AC l (pI pg 16) (fcV M (QF4 H cd M)) 0 0 [.ref 41, .ref 17, .ref 30, .ref 44] SHF M := by
  have w8 := hI.2.1
  have p6 := hI.1
  have P8 := p2_8 w8
  have wpos := Nat.two_pow_pos H.wo
  refine fw_of hl0 ⟨by decide +kernel, by decide +kernel, by decide +kernel⟩ rfl ?_
  refine fi4b_0 hR hl0 _ (fiJ42_c hl0) (fun M1 e1 q1 => vp_in_nI (n := 0) (by decide) (by decide)) (fun M1 e1 q1 => ?_)
  have outer : ∀ (d p : Nat) (M1 : aM), p + d = H.pe → M1.2.2 = M.2.2 → (∀ a c, a ≠ 42 → M1.1 a c = M.1 a c) → (∀ t, t < 2 ^ H.wo → ab4 H cd p M1 t) → AW l (pI pg 16) (fcV M (QF4 H cd M)) 0 0 18 [(4, .int (nI p)), (3, .ref 44), (2, .ref 30), (1, .ref 17), (0, .ref 41)] [] SHF M1 := by
    intro d
    induction d with
    | zero =>
      intro p M1 hp h1 h2 h3
      have ep : p = H.pe := by omega
      subst ep
      have le : M1.1 17 0 ≤ nI H.pe := by rw [h2 17 0 (by decide), hH.pe]; exact Int32.le_refl _
      exact fi4b_18 (by rw [h1]; exact hR) hl0 (fun _ => ⟨rfl, h1, rfl, h3, h2⟩) (fun _ _ => True) (fun h => absurd le h) (fun h => absurd le h)
    | succ d ih =>
      intro p M1 hp h1 h2 h3
      have ng : ¬ M1.1 17 0 ≤ nI p := by
        rw [h2 17 0 (by decide), hH.pe, nle (by omega) (by omega)]
        omega
      refine fi4b_18 (by rw [h1]; exact hR) hl0 (fun h => absurd h ng) (fun y M' => M' = M1 ∧ y = nI (2 ^ H.wo - 1)) (fun _ => alwb_c hl0 w8 (by rw [h2 17 1 (by decide), hH.wo])) (fun _ y3 M3 e3 q3 => ?_)
      obtain ⟨rfl, rfl⟩ := q3
      have inner : ∀ (n : Nat) (M2 : aM), n ≤ 2 ^ H.wo → M2.2.2 = M.2.2 → (∀ a c, a ≠ 42 → M2.1 a c = M.1 a c) → (∀ t, t < 2 ^ H.wo → n ≤ t → ab4 H cd (p + 1) M2 t) → (∀ t, t < n → ab4 H cd p M2 t) → AW l (pI pg 16) (fcV M (QF4 H cd M)) 0 0 33 [(5, .int (sI n)), (4, .int (nI p)), (3, .ref 44), (2, .ref 30), (1, .ref 17), (0, .ref 41)] [] SHF M2 := by
        intro n
        induction n with
        | zero =>
          intro M2 hn g1 g2 g3 g4
          have lt : sI 0 < 0 := by decide
          refine fi4b_33 (by rw [g1]; exact hR) hl0 (fun _ => ?_) (fun h => absurd lt h) (fun _ _ => True) (fun h => absurd lt h) (fun h => absurd lt h) (fun h => absurd lt h)
          rw [show nI p + Int32.ofInt 1 = nI (p + 1) from nI_1 p]
          exact ih (p + 1) M2 (by omega) g1 g2 (fun t ht => g3 t ht (Nat.zero_le _))
        | succ n ihn =>
          intro M2 hn g1 g2 g3 g4
          have nl : ¬ nI n < 0 := by
            rw [show (0 : Int32) = nI 0 from rfl, nlt (by omega) (by decide)]
            omega
          have cp : (nI p).toNatClampNeg = p := nI_clamp (by omega)
          have c7 : M2.1 44 p = nI (cd p) := (g2 44 p (by decide)).trans (hC p (by omega))
          have c5 : M2.1 18 p = nI (H.ho p) := (g2 18 p (by decide)).trans (hH.ho p (by omega))
          have cd8 := hC8 p (by omega)
          have h24 := hI.2.2.2.2.1 p (by omega)
          show AW l (pI pg 16) (fcV M (QF4 H cd M)) 0 0 33 [(5, .int (nI n)), (4, .int (nI p)), (3, .ref 44), (2, .ref 30), (1, .ref 17), (0, .ref 41)] [] SHF M2
          refine fi4b_33 (by rw [g1]; exact hR) hl0 (fun h => absurd h nl) (fun _ => vp_in_nI (by omega) (by decide)) (fun f M' => M' = M2 ∧ wo4 H M2 n (n &&& cd p) (H.ho p) f) (fun _ => ?_) (fun _ y4 M4 e4 q4 => vp_in_nI (by omega) (by decide)) (fun _ y4 M4 e4 q4 => ?_)
          · rw [cp, c7, c5]
            exact wh4_c hl0 (by rw [g1]; exact fun e he => hR e (rl4_RRS e he)) w8 (fun t ht => by rw [g2 31 t (by decide)]; exact hs t ht) hsl (by omega) cd8 h24
          · obtain ⟨rfl, q4⟩ := q4
            rw [nI_clamp (n := n) (by omega), shW (show p ≤ 8 by omega), sI_dn (by omega)]
            have key := ab4_next hI (cd := cd) (p := p) (n := n) (by omega) (by omega) (fun t h1 _ => g4 t (by omega)) q4
            refine ihn _ (by omega) g1 (fun a c ha => ?_) (fun t ht hnt => ?_) (fun t ht => ?_)
            · exact g2 a c ha
            · by_cases e : t = n
              · subst e
                intro lf hlf
                rw [set_J, if_pos rfl, if_pos rfl]
                exact key lf hlf
              · exact ab4_fr (g3 t ht (by omega)) (by rw [set_J, if_pos rfl, if_neg e])
            · exact ab4_fr (g4 t (by omega)) (by rw [set_J, if_pos rfl, if_neg (by omega)])
      have := inner (2 ^ H.wo) M3 (Nat.le_refl _) h1 h2 (fun t ht hn => absurd ht (Nat.not_lt.mpr hn)) h3
      rw [show sI (2 ^ H.wo) = nI (2 ^ H.wo - 1) by
        obtain ⟨k, hk⟩ : ∃ k, 2 ^ H.wo = k + 1 := ⟨2 ^ H.wo - 1, by omega⟩
        rw [hk]
        rfl] at this
      exact this
  refine outer H.pe 0 _ (by omega) e1 (fun a c ha => ?_) (fun t ht lf hlf => ?_)
  · exact q1.2 a c ha
  · rw [Nat.pow_zero]
    by_cases e : t = 0
    · subst e
      rw [set_J, if_pos rfl, if_pos (show 0 = (Int32.ofInt 0).toNatClampNeg by decide), show Int64.ofNat ((1 : Fin 2) : Nat) = 1 from rfl, bL_1, decide_eq_true_eq]
      exact ⟨fun h => ⟨by omega, rfl⟩, fun h => by omega⟩
    · rw [set_J, if_pos rfl, if_neg (show ¬ t = (Int32.ofInt 0).toNatClampNeg from e), q1.1 t (by omega), show Int64.ofNat ((0 : Fin 2) : Nat) = 0 from rfl, bL_0]
      exact ⟨fun h => (by cases h), fun h => absurd h.2 e⟩
end LG43
section LE4
variable {l : aL} {M : aM} {H : HS}
theorem in4_c (hl0 : l.1.stackTraces = false) (hR : ∀ e ∈ RL4, M.2.2 e.1 e.2.1 = e.2.2) {t : Nat} (ht : t < 256) {f : Int64} : AC l (pI pg 119) (fcI M (fun y M' => M' = M ∧ ((y = Int32.ofInt 1 ∧ ∀ i, i < 64 → bL f i = true → bL (M.2.1 42 t) i = true) ∨ (y = Int32.ofInt 0 ∧ ¬ ∀ i, i < 64 → bL f i = true → bL (M.2.1 42 t) i = true)))) 0 0 [.ref 41, .int (nI t), .long f] SHF M := by
  refine fw_of hl0 ⟨by decide +kernel, by decide +kernel, by decide +kernel⟩ rfl ?_
  refine in4_0 hR hl0 (vp_in_nI (by omega) (by decide)) (fun h2 => ?_) (fun h2 => ?_)
  · rw [nI_clamp (by omega), lgc, bL_inc] at h2
    exact ⟨rfl, rfl, _, rfl, rfl, Or.inr ⟨rfl, h2⟩⟩
  · rw [nI_clamp (by omega), lgc, bL_inc] at h2
    exact ⟨rfl, rfl, _, rfl, rfl, Or.inl ⟨rfl, h2⟩⟩
/-- all that are wanted can do all works, with the teachings of a set -/
def hoW (H : HS) (f : Int64) (ts : Nat) : Prop := ∀ i, i < 64 → bL f i = true → rea H (fun p => cdT H ts p H.te) i H.pe (2 ^ H.wo - 1)
def frL (M M' : aM) : Prop := ∀ a k, a ≠ 42 → a ≠ 44 → M'.1 a k = M.1 a k
theorem hwia_c (hl0 : l.1.stackTraces = false) (hR : ∀ e ∈ RR.2, M.2.2 e.1 e.2.1 = e.2.2) (hI : HI H) (hH : cHo 4 H M) (hs : ∀ t, t < 2 ^ H.wo → ((noC H H.wo t ∧ M.1 31 t = nI (sumL H H.wo t)) ∨ (¬ noC H H.wo t ∧ M.1 31 t = nI 99))) {f : Int64} (hf : ∀ i, i < 64 → bL f i = true → i < 2 ^ H.pe) {ts : Nat} (ht : ts < 256) : AC l (pI pg 134) (fcI M (fun y M' => frL M M' ∧ ((y = Int32.ofInt 1 ∧ hoW H f ts) ∨ (y = Int32.ofInt 0 ∧ ¬ hoW H f ts)))) 0 0 [.ref 40, .ref 4, .ref 30, .int (nI ts), .long f] SHF M := by
  have w8 := hI.2.1
  have p6 := hI.1
  have t8 := hI.2.2.1
  have P8 := p2_8 w8
  have wpos := Nat.two_pow_pos H.wo
  have hsl : ∀ t, sumL H H.wo t ≤ 64 := fun t => Nat.le_trans (sumL_le hI H.wo (Nat.le_refl _)) (by omega)
  refine fw_of hl0 ⟨by decide +kernel, by decide +kernel, by decide +kernel⟩ rfl ?_
  refine hwia_0 hR hl0 ?_
  have fH : ∀ {M1 : aM}, frL M M1 → cHo 4 H M1 := fun {M1} h => cH_eq hH (fun a k h1 h2 => h a k (by omega) (by omega))
  have loop : ∀ (d k : Nat) (M1 : aM), k + d = H.te → M1.2.2 = M.2.2 → frL M M1 → (∀ p, p < 6 → M1.1 44 p = nI (cdT H ts p k)) → AW l (pI pg 134) (fcI M (fun y M' => frL M M' ∧ ((y = Int32.ofInt 1 ∧ hoW H f ts) ∨ (y = Int32.ofInt 0 ∧ ¬ hoW H f ts)))) 0 0 18 [(6, .int (nI k)), (4, .long f), (3, .int (nI ts)), (2, .ref 30), (1, .ref 4), (0, .ref 40)] [] SHF M1 := by
    intro d
    induction d with
    | zero =>
      intro k M1 hk h1 h2 h3
      have ek : k = H.te := by omega
      subst ek
      have c1 := fH h2
      have hR1 : ∀ e ∈ RR.2, M1.2.2 e.1 e.2.1 = e.2.2 := by rw [h1]; exact hR
      have le : M1.1 4 2 ≤ nI H.te := by rw [c1.te]; exact Int32.le_refl _
      refine hwia_18 hR1 hl0 (QF4 H (fun p => cdT H ts p H.te) M1) (fun _ => fi4a_c hl0 hR1 hI c1 (fun p hp => h3 p (by omega)) (fun p hp => cdT_lt hI (by omega) _ (Nat.le_refl _)) (fun t ht => by rw [h2 31 t (by decide) (by decide)]; exact hs t ht) hsl) (fun M2 y M' => M' = M2 ∧ y = nI (2 ^ H.wo - 1)) (fun _ M2 e2 q2 => ?_) (fun M2 _ M4 y M' => M' = M4 ∧ ((y = Int32.ofInt 1 ∧ ∀ i, i < 64 → bL f i = true → bL (M4.2.1 42 (2 ^ H.wo - 1)) i = true) ∨ (y = Int32.ofInt 0 ∧ ¬ ∀ i, i < 64 → bL f i = true → bL (M4.2.1 42 (2 ^ H.wo - 1)) i = true))) (fun _ M2 e2 q2 y4 M4 e4 q4 => ?_) (fun _ M2 e2 q2 y4 M4 e4 q4 y6 M6 e6 q6 => ?_) (fun _ M2 e2 q2 y4 M4 e4 q4 y6 M6 e6 q6 => ?_) (fun h => absurd le h) (fun h => absurd le h) (fun h => absurd le h) (fun h => absurd le h) (fun h => absurd le h)
      · exact alwa_c hl0 w8 ((q2.2 4 1 (by decide)).trans c1.wo)
      · obtain ⟨rfl, rfl⟩ := q4
        exact in4_c hl0 (fun e he => by rw [e2, h1]; exact hR e (rl4_RR e he)) (by omega)
      · rcases q6.2 with ⟨h, -⟩ | ⟨h, -⟩ <;> rw [h] <;> rfl
      · obtain ⟨rfl, -⟩ := q4
        obtain ⟨rfl, q6⟩ := q6
        have key : (∀ i, i < 64 → bL f i = true → bL (M6.2.1 42 (2 ^ H.wo - 1)) i = true) ↔ hoW H f ts := by
          refine ⟨fun h i hi hb => ((q2.1 _ (by omega) i hi).mp (h i hi hb)).2, fun h i hi hb => (q2.1 _ (by omega) i hi).mpr ⟨hf i hi hb, h i hi hb⟩⟩
        rw [key] at q6
        exact ⟨rfl, e6.trans (e2.trans h1), _, rfl, fun a k ha hb => (q2.2 a k ha).trans (h2 a k ha hb), q6⟩
    | succ d ih =>
      intro k M1 hk h1 h2 h3
      have c1 := fH h2
      have hR1 : ∀ e ∈ RR.2, M1.2.2 e.1 e.2.1 = e.2.2 := by rw [h1]; exact hR
      have ng : ¬ M1.1 4 2 ≤ nI k := by
        rw [c1.te, nle (by omega) (by omega)]
        omega
      have nx : nI k + Int32.ofInt 1 = nI (k + 1) := nI_1 k
      have ck : (nI k).toNatClampNeg = k := nI_clamp (by omega)
      obtain ⟨v0, v1, -⟩ := hI.2.2.2.2.2.2.2.2.2.2.2 k (by omega)
      have l0 : M1.1 13 (nI k).toNatClampNeg = nI (H.t0 k) := by rw [ck]; exact c1.t0 k (by omega)
      have l1 : M1.1 14 (nI k).toNatClampNeg = nI (H.t1 k) := by rw [ck]; exact c1.t1 k (by omega)
      have hp : hpV (M1.1 4 0) (nI (H.t0 k)) = Int32.ofInt 1 := by
        unfold hpV
        rw [c1.pe, if_neg (fun h => by rw [show (0 : Int32) = nI 0 from rfl, nlt (by omega) (by decide)] at h; omega), if_neg (fun h => by rw [nle (by omega) (by omega)] at h; omega)]
      have p28 : 2 ^ H.t1 k ≤ 256 := p2_8 (by omega)
      have ct : (nI (H.t0 k)).toNatClampNeg = H.t0 k := nI_clamp (by omega)
      refine hwia_18 hR1 hl0 (fun _ => True) (fun h => absurd h ng) (fun _ _ _ => True) (fun h => absurd h ng) (fun _ _ _ _ _ => True) (fun h => absurd h ng) (fun h => absurd h ng) (fun h => absurd h ng) (fun _ => vp_in_nI (by omega) (by decide)) (fun _ h11 => ?_) (fun _ h11 h14 => ?_) (fun _ h11 h14 => by rw [l0]; exact vp_in_nI (by omega) (by decide)) (fun _ h11 h14 => ?_)
      · rw [bitF (by omega) (by omega)] at h11
        rw [nx]
        refine ih (k + 1) M1 (by omega) h1 h2 (fun p hp => ?_)
        rw [h3 p hp]
        show _ = nI (cdT H ts p k ||| _)
        rw [if_neg (fun q => by rw [h11] at q; cases q.1), Nat.or_zero]
      · rw [l0, hp] at h14
        exact absurd h14 (by decide)
      · have hb : ts.testBit k = true := by
          cases e : ts.testBit k with
          | true => rfl
          | false => exact absurd ((bitF (by omega) (by omega)).mpr e) h11
        have cl := cdT_lt hI (ts := ts) (p := H.t0 k) (by omega) k (by omega)
        rw [nx, l0, ct, l1, h3 _ (by omega), shW (by omega), nI_orN (by omega) (by omega)]
        refine ih (k + 1) _ (by omega) h1 (fun a c ha hb => ?_) (fun p hp => ?_)
        · rw [set_1, if_neg hb]
          exact h2 a c ha hb
        · rw [set_1, if_pos rfl]
          show _ = nI (cdT H ts p k ||| _)
          by_cases e : p = H.t0 k
          · rw [if_pos e, if_pos ⟨hb, e.symm⟩, e]
          · rw [if_neg e, if_neg (fun q => e q.2.symm), Nat.or_zero]
            exact h3 p hp
  refine loop H.te 0 _ (by omega) rfl (fun a k ha hb => ?_) (fun p hp => ?_)
  · show (if a = 44 then _ else M.1 a k) = _
    rw [if_neg hb]
  · show (if 44 = 44 then va_cpy (M.1 7) (M.1 44) (Int32.ofInt 0).toNatClampNeg (Int32.ofInt 0).toNatClampNeg ((Int8.ofInt 6).toInt32).toNatClampNeg p else M.1 44 p) = nI (cdT H ts p 0)
    rw [if_pos rfl, show (Int32.ofInt 0).toNatClampNeg = 0 by decide, show ((Int8.ofInt 6).toInt32).toNatClampNeg = 6 by decide]
    show (if 0 ≤ p ∧ p < 0 + 6 then M.1 7 (0 + (p - 0)) else M.1 44 p) = nI (H.cd p)
    rw [if_pos ⟨Nat.zero_le _, by omega⟩, Nat.sub_zero, Nat.zero_add]
    exact hH.cd p hp
theorem hwib_c (hl0 : l.1.stackTraces = false) (hR : ∀ e ∈ RRS.2, M.2.2 e.1 e.2.1 = e.2.2) (hI : HI H) (hH : cHo 17 H M) (hs : ∀ t, t < 2 ^ H.wo → ((noC H H.wo t ∧ M.1 31 t = nI (sumL H H.wo t)) ∨ (¬ noC H H.wo t ∧ M.1 31 t = nI 99))) {f : Int64} (hf : ∀ i, i < 64 → bL f i = true → i < 2 ^ H.pe) {ts : Nat} (ht : ts < 256) : AC l (pI pg 134) (fcI M (fun y M' => frL M M' ∧ ((y = Int32.ofInt 1 ∧ hoW H f ts) ∨ (y = Int32.ofInt 0 ∧ ¬ hoW H f ts)))) 0 0 [.ref 40, .ref 17, .ref 30, .int (nI ts), .long f] SHF M := by
  have w8 := hI.2.1
  have p6 := hI.1
  have t8 := hI.2.2.1
  have P8 := p2_8 w8
  have wpos := Nat.two_pow_pos H.wo
  have hsl : ∀ t, sumL H H.wo t ≤ 64 := fun t => Nat.le_trans (sumL_le hI H.wo (Nat.le_refl _)) (by omega)
  refine fw_of hl0 ⟨by decide +kernel, by decide +kernel, by decide +kernel⟩ rfl ?_
  refine hwib_0 hR hl0 ?_
  have fH : ∀ {M1 : aM}, frL M M1 → cHo 17 H M1 := fun {M1} h => cH_eq hH (fun a k h1 h2 => h a k (by omega) (by omega))
  have loop : ∀ (d k : Nat) (M1 : aM), k + d = H.te → M1.2.2 = M.2.2 → frL M M1 → (∀ p, p < 6 → M1.1 44 p = nI (cdT H ts p k)) → AW l (pI pg 134) (fcI M (fun y M' => frL M M' ∧ ((y = Int32.ofInt 1 ∧ hoW H f ts) ∨ (y = Int32.ofInt 0 ∧ ¬ hoW H f ts)))) 0 0 18 [(6, .int (nI k)), (4, .long f), (3, .int (nI ts)), (2, .ref 30), (1, .ref 17), (0, .ref 40)] [] SHF M1 := by
    intro d
    induction d with
    | zero =>
      intro k M1 hk h1 h2 h3
      have ek : k = H.te := by omega
      subst ek
      have c1 := fH h2
      have hR1 : ∀ e ∈ RRS.2, M1.2.2 e.1 e.2.1 = e.2.2 := by rw [h1]; exact hR
      have le : M1.1 17 2 ≤ nI H.te := by rw [c1.te]; exact Int32.le_refl _
      refine hwib_18 hR1 hl0 (QF4 H (fun p => cdT H ts p H.te) M1) (fun _ => fi4b_c hl0 hR1 hI c1 (fun p hp => h3 p (by omega)) (fun p hp => cdT_lt hI (by omega) _ (Nat.le_refl _)) (fun t ht => by rw [h2 31 t (by decide) (by decide)]; exact hs t ht) hsl) (fun M2 y M' => M' = M2 ∧ y = nI (2 ^ H.wo - 1)) (fun _ M2 e2 q2 => ?_) (fun M2 _ M4 y M' => M' = M4 ∧ ((y = Int32.ofInt 1 ∧ ∀ i, i < 64 → bL f i = true → bL (M4.2.1 42 (2 ^ H.wo - 1)) i = true) ∨ (y = Int32.ofInt 0 ∧ ¬ ∀ i, i < 64 → bL f i = true → bL (M4.2.1 42 (2 ^ H.wo - 1)) i = true))) (fun _ M2 e2 q2 y4 M4 e4 q4 => ?_) (fun _ M2 e2 q2 y4 M4 e4 q4 y6 M6 e6 q6 => ?_) (fun _ M2 e2 q2 y4 M4 e4 q4 y6 M6 e6 q6 => ?_) (fun h => absurd le h) (fun h => absurd le h) (fun h => absurd le h) (fun h => absurd le h) (fun h => absurd le h)
      · exact alwb_c hl0 w8 ((q2.2 17 1 (by decide)).trans c1.wo)
      · obtain ⟨rfl, rfl⟩ := q4
        exact in4_c hl0 (fun e he => by rw [e2, h1]; exact hR e (rl4_RRS e he)) (by omega)
      · rcases q6.2 with ⟨h, -⟩ | ⟨h, -⟩ <;> rw [h] <;> rfl
      · obtain ⟨rfl, -⟩ := q4
        obtain ⟨rfl, q6⟩ := q6
        have key : (∀ i, i < 64 → bL f i = true → bL (M6.2.1 42 (2 ^ H.wo - 1)) i = true) ↔ hoW H f ts := by
          refine ⟨fun h i hi hb => ((q2.1 _ (by omega) i hi).mp (h i hi hb)).2, fun h i hi hb => (q2.1 _ (by omega) i hi).mpr ⟨hf i hi hb, h i hi hb⟩⟩
        rw [key] at q6
        exact ⟨rfl, e6.trans (e2.trans h1), _, rfl, fun a k ha hb => (q2.2 a k ha).trans (h2 a k ha hb), q6⟩
    | succ d ih =>
      intro k M1 hk h1 h2 h3
      have c1 := fH h2
      have hR1 : ∀ e ∈ RRS.2, M1.2.2 e.1 e.2.1 = e.2.2 := by rw [h1]; exact hR
      have ng : ¬ M1.1 17 2 ≤ nI k := by
        rw [c1.te, nle (by omega) (by omega)]
        omega
      have nx : nI k + Int32.ofInt 1 = nI (k + 1) := nI_1 k
      have ck : (nI k).toNatClampNeg = k := nI_clamp (by omega)
      obtain ⟨v0, v1, -⟩ := hI.2.2.2.2.2.2.2.2.2.2.2 k (by omega)
      have l0 : M1.1 26 (nI k).toNatClampNeg = nI (H.t0 k) := by rw [ck]; exact c1.t0 k (by omega)
      have l1 : M1.1 27 (nI k).toNatClampNeg = nI (H.t1 k) := by rw [ck]; exact c1.t1 k (by omega)
      have hp : hpV (M1.1 17 0) (nI (H.t0 k)) = Int32.ofInt 1 := by
        unfold hpV
        rw [c1.pe, if_neg (fun h => by rw [show (0 : Int32) = nI 0 from rfl, nlt (by omega) (by decide)] at h; omega), if_neg (fun h => by rw [nle (by omega) (by omega)] at h; omega)]
      have p28 : 2 ^ H.t1 k ≤ 256 := p2_8 (by omega)
      have ct : (nI (H.t0 k)).toNatClampNeg = H.t0 k := nI_clamp (by omega)
      refine hwib_18 hR1 hl0 (fun _ => True) (fun h => absurd h ng) (fun _ _ _ => True) (fun h => absurd h ng) (fun _ _ _ _ _ => True) (fun h => absurd h ng) (fun h => absurd h ng) (fun h => absurd h ng) (fun _ => vp_in_nI (by omega) (by decide)) (fun _ h11 => ?_) (fun _ h11 h14 => ?_) (fun _ h11 h14 => by rw [l0]; exact vp_in_nI (by omega) (by decide)) (fun _ h11 h14 => ?_)
      · rw [bitF (by omega) (by omega)] at h11
        rw [nx]
        refine ih (k + 1) M1 (by omega) h1 h2 (fun p hp => ?_)
        rw [h3 p hp]
        show _ = nI (cdT H ts p k ||| _)
        rw [if_neg (fun q => by rw [h11] at q; cases q.1), Nat.or_zero]
      · rw [l0, hp] at h14
        exact absurd h14 (by decide)
      · have hb : ts.testBit k = true := by
          cases e : ts.testBit k with
          | true => rfl
          | false => exact absurd ((bitF (by omega) (by omega)).mpr e) h11
        have cl := cdT_lt hI (ts := ts) (p := H.t0 k) (by omega) k (by omega)
        rw [nx, l0, ct, l1, h3 _ (by omega), shW (by omega), nI_orN (by omega) (by omega)]
        refine ih (k + 1) _ (by omega) h1 (fun a c ha hb => ?_) (fun p hp => ?_)
        · rw [set_1, if_neg hb]
          exact h2 a c ha hb
        · rw [set_1, if_pos rfl]
          show _ = nI (cdT H ts p k ||| _)
          by_cases e : p = H.t0 k
          · rw [if_pos e, if_pos ⟨hb, e.symm⟩, e]
          · rw [if_neg e, if_neg (fun q => e q.2.symm), Nat.or_zero]
            exact h3 p hp
  refine loop H.te 0 _ (by omega) rfl (fun a k ha hb => ?_) (fun p hp => ?_)
  · show (if a = 44 then _ else M.1 a k) = _
    rw [if_neg hb]
  · show (if 44 = 44 then va_cpy (M.1 20) (M.1 44) (Int32.ofInt 0).toNatClampNeg (Int32.ofInt 0).toNatClampNeg ((Int8.ofInt 6).toInt32).toNatClampNeg p else M.1 44 p) = nI (cdT H ts p 0)
    rw [if_pos rfl, show (Int32.ofInt 0).toNatClampNeg = 0 by decide, show ((Int8.ofInt 6).toInt32).toNatClampNeg = 6 by decide]
    show (if 0 ≤ p ∧ p < 0 + 6 then M.1 20 (0 + (p - 0)) else M.1 44 p) = nI (H.cd p)
    rw [if_pos ⟨Nat.zero_le _, by omega⟩, Nat.sub_zero, Nat.zero_add]
    exact hH.cd p hp
end LE4
