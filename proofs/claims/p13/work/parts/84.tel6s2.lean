/-! THE REFERENCE'S LISTS: which sets of works one can do in his hours -/
section REFL
variable {l : aL} {M : aM} {H : HS}
theorem nle {a b : Nat} (ha : a < 2 ^ 31) (hb : b < 2 ^ 31) : nI a ≤ nI b ↔ a ≤ b := by
  rw [Int32.le_iff_toInt_le, nI_toInt ha, nI_toInt hb]
  omega
theorem nlt {a b : Nat} (ha : a < 2 ^ 31) (hb : b < 2 ^ 31) : nI a < nI b ↔ a < b := by
  rw [Int32.lt_iff_toInt_lt, nI_toInt ha, nI_toInt hb]
  omega
theorem mH_be (h : mHo H M) {w : Nat} (hw : w < H.wo) : M.1 61 w = nI (H.be w) := h.2.2.2.2.2.2.1 w hw
theorem mH_le (h : mHo H M) {w : Nat} (hw : w < H.wo) : M.1 62 w = nI (H.le w) := h.2.2.2.2.2.2.2.1 w hw
theorem HI_w (h : HI H) {w : Nat} (hw : w < H.wo) : H.be w ≤ 23 ∧ 1 ≤ H.le w ∧ H.le w ≤ 8 ∧ H.be w + H.le w ≤ 24 := h.2.2.2.2.2.2.1 w hw
theorem cls_c (hl0 : l.1.stackTraces = false) (hR : ∀ e ∈ RM, M.2.2 e.1 e.2.1 = e.2.2) (hI : HI H) (hm : mHo H M) {a b : Nat} (ha : a < H.wo) (hb : b < H.wo) : AC l (pI pg 207) (fcI M (fun y M' => M' = M ∧ ((y = Int32.ofInt 1 ∧ clh H a b) ∨ (y = Int32.ofInt 0 ∧ ¬ clh H a b)))) 0 0 [.ref 58, .int (nI a), .int (nI b)] SHF M := by
  have w8 := hI.2.1
  obtain ⟨a1, a2, a3, a4⟩ := HI_w hI ha
  obtain ⟨b1, b2, b3, b4⟩ := HI_w hI hb
  refine fw_of hl0 ⟨by decide +kernel, by decide +kernel, by decide +kernel⟩ rfl ?_
  have e1 : (M.1 61 (nI b).toNatClampNeg + M.1 62 (nI b).toNatClampNeg ≤ M.1 61 (nI a).toNatClampNeg) ↔ H.be b + H.le b ≤ H.be a := by
    rw [nI_clamp (by omega), nI_clamp (by omega), mH_be hm hb, mH_le hm hb, mH_be hm ha, nI_add, nle (by omega) (by omega)]
  have e2 : (M.1 61 (nI a).toNatClampNeg + M.1 62 (nI a).toNatClampNeg ≤ M.1 61 (nI b).toNatClampNeg) ↔ H.be a + H.le a ≤ H.be b := by
    rw [nI_clamp (by omega), nI_clamp (by omega), mH_be hm ha, mH_le hm ha, mH_be hm hb, nI_add, nle (by omega) (by omega)]
  refine cls_0 hR hl0 (vp_in_nI (by omega) (by decide)) (vp_in_nI (by omega) (by decide)) (fun h3 => ?_) (fun h3 h5 => ?_) (fun h3 h5 => ?_)
  · have := e1.mp h3
    exact ⟨rfl, rfl, _, rfl, rfl, Or.inr ⟨rfl, fun h => by have := h.1; omega⟩⟩
  · have := e2.mp h5
    exact ⟨rfl, rfl, _, rfl, rfl, Or.inr ⟨rfl, fun h => by have := h.2; omega⟩⟩
  · rw [e1] at h3
    rw [e2] at h5
    exact ⟨rfl, rfl, _, rfl, rfl, Or.inl ⟨rfl, by omega, by omega⟩⟩
theorem sumL_le (hI : HI H) {t : Nat} : ∀ n, n ≤ H.wo → sumL H n t ≤ 8 * n
  | 0, _ => Nat.zero_le _
  | n + 1, hn => by
    have := sumL_le (t := t) hI n (by omega)
    have := (HI_w hI (w := n) (by omega)).2.2.1
    show sumL H n t + _ ≤ _
    split <;> omega
/-- does a set fit into so many hours -/
theorem fts_c (hl0 : l.1.stackTraces = false) (hR : ∀ e ∈ RM, M.2.2 e.1 e.2.1 = e.2.2) (hI : HI H) (hm : mHo H M) {t m : Nat} (ht : t < 256) (hm2 : m ≤ 24) : AC l (pI pg 206) (fcI M (fun y M' => M' = M ∧ ((y = Int32.ofInt 1 ∧ fit H t m) ∨ (y = Int32.ofInt 0 ∧ ¬ fit H t m)))) 0 0 [.ref 58, .int (nI t), .int (nI m)] SHF M := by
  have w8 := hI.2.1
  have h58 : M.1 58 2 = nI H.wo := hm.2.1
  refine fw_of hl0 ⟨by decide +kernel, by decide +kernel, by decide +kernel⟩ rfl ?_
  refine fts_0 hR hl0 ?_
  have outer : ∀ (d a : Nat), a + d = H.wo → noC H a t → AW l (pI pg 206) (fcI M (fun y M' => M' = M ∧ ((y = Int32.ofInt 1 ∧ fit H t m) ∨ (y = Int32.ofInt 0 ∧ ¬ fit H t m)))) 0 0 5 [(4, .int (nI a)), (3, .int (nI (sumL H a t))), (2, .int (nI m)), (1, .int (nI t)), (0, .ref 58)] [] SHF M := by
    intro d
    induction d with
    | zero =>
      intro a had hn
      have ea : a = H.wo := by omega
      subst ea
      have hs := sumL_le (t := t) hI H.wo (Nat.le_refl _)
      refine fts_5 hR hl0 (fun h1 h2 => ?_) (fun h1 h2 => ?_) (fun h1 => absurd (by rw [h58]; exact Int32.le_refl _) h1) (fun h1 => absurd (by rw [h58]; exact Int32.le_refl _) h1) (fun h1 => absurd (by rw [h58]; exact Int32.le_refl _) h1)
      · rw [nlt (by omega) (by omega)] at h2
        exact ⟨rfl, rfl, _, rfl, rfl, Or.inr ⟨rfl, fun h => by have := h.2; omega⟩⟩
      · rw [nlt (by omega) (by omega)] at h2
        exact ⟨rfl, rfl, _, rfl, rfl, Or.inl ⟨rfl, hn, by omega⟩⟩
    | succ d ih =>
      intro a had hn
      have hs := sumL_le (t := t) hI a (by omega)
      have hl := HI_w hI (w := a) (by omega)
      refine fts_5 hR hl0 (fun h1 => ge_no (a := a) (b := H.wo) (by omega) (by omega) (by rw [h58] at h1; exact h1)) (fun h1 => ge_no (a := a) (b := H.wo) (by omega) (by omega) (by rw [h58] at h1; exact h1)) (fun h1 h5 => vp_in_nI (by omega) (by decide)) (fun h1 h5 => ?_) (fun h1 h5 => ?_)
      · have hb : t.testBit a = true := by
          cases e : t.testBit a with
          | true => rfl
          | false => exact absurd ((bitF (by omega) (by omega)).mpr e) h5
        rw [nI_clamp (by omega), mH_le hm (by omega), nI_add, show sumL H a t + H.le a = sumL H (a + 1) t by show _ = sumL H a t + _; rw [if_pos hb]]
        have inner : ∀ (d2 b : Nat), b + d2 = a → (∀ x, x < b → t.testBit x = true → ¬ clh H a x) → AW l (pI pg 206) (fcI M (fun y M' => M' = M ∧ ((y = Int32.ofInt 1 ∧ fit H t m) ∨ (y = Int32.ofInt 0 ∧ ¬ fit H t m)))) 0 0 39 [(5, .int (nI b)), (4, .int (nI a)), (3, .int (nI (sumL H (a + 1) t))), (2, .int (nI m)), (1, .int (nI t)), (0, .ref 58)] [] SHF M := by
          intro d2
          induction d2 with
          | zero =>
            intro b hbd hx
            have eb : b = a := by omega
            subst eb
            refine fts_39 hR hl0 (fun h1 => ?_) (fun h1 => absurd (Int32.le_refl _) h1) (fun _ _ => True) (fun h1 => absurd (Int32.le_refl _) h1) (fun h1 => absurd (Int32.le_refl _) h1) (fun h1 => absurd (Int32.le_refl _) h1)
            rw [show nI b + Int32.ofInt 1 = nI (b + 1) from nI_1 b]
            refine ih (b + 1) (by omega) (fun x hx1 hx2 y hy hy2 => ?_)
            by_cases e : x = b
            · subst e
              exact hx y hy hy2
            · exact hn x (by omega) hx2 y hy hy2
          | succ d2 ih2 =>
            intro b hbd hx
            refine fts_39 hR hl0 (fun h1 => ge_no (by omega) (by omega) h1) (fun h1 h3 => ?_) (fun y M' => M' = M ∧ ((y = Int32.ofInt 1 ∧ clh H a b) ∨ (y = Int32.ofInt 0 ∧ ¬ clh H a b))) (fun h1 h3 => cls_c hl0 hR hI hm (by omega) (by omega)) (fun h1 h3 y5 M5 e5 q5 h7 => ?_) (fun h1 h3 y5 M5 e5 q5 h7 => ?_)
            · rw [show nI b + Int32.ofInt 1 = nI (b + 1) from nI_1 b]
              refine ih2 (b + 1) (by omega) (fun x hx1 hx2 => ?_)
              by_cases e : x = b
              · subst e
                exact absurd ((bitT (by omega) (by omega)).mpr hx2) h3
              · exact hx x (by omega) hx2
            · obtain ⟨rfl, q5⟩ := q5
              rw [show nI b + Int32.ofInt 1 = nI (b + 1) from nI_1 b]
              refine ih2 (b + 1) (by omega) (fun x hx1 hx2 => ?_)
              by_cases e : x = b
              · subst e
                rcases q5 with ⟨q5, -⟩ | ⟨-, q5⟩
                · exact absurd (q5.symm.trans h7) (by decide)
                · exact q5
              · exact hx x (by omega) hx2
            · obtain ⟨rfl, q5⟩ := q5
              rcases q5 with ⟨-, q5⟩ | ⟨q5, -⟩
              · exact ⟨rfl, rfl, _, rfl, rfl, Or.inr ⟨rfl, fun h => h.1 a (by omega) hb b (by omega) ((bitT (by omega) (by omega)).mp h3) q5⟩⟩
              · exact absurd q5 h7
        exact inner a 0 (by omega) (fun x hx => absurd hx (Nat.not_lt_zero _))
      · have hb : t.testBit a = false := (bitF (by omega) (by omega)).mp h5
        rw [show nI a + Int32.ofInt 1 = nI (a + 1) from nI_1 a]
        have e := ih (a + 1) (by omega) (fun x hx1 hx2 y hy hy2 => by
          by_cases e : x = a
          · subst e
            rw [hb] at hx2
            cases hx2
          · exact hn x (by omega) hx2 y hy hy2)
        rw [show sumL H (a + 1) t = sumL H a t by show sumL H a t + _ = _; rw [hb]; rfl] at e
        exact e
  exact outer H.wo 0 (by omega) (fun x hx => absurd hx (Nat.not_lt_zero _))
end REFL
section REFL2
variable {l : aL} {M : aM} {H : HS}
theorem bN_hi {x : Nat} (h : x < 256) {i : Nat} (hi : 8 ≤ i) : x.testBit i = false := tb_no (w := 8) h hi
/-- s & ~y, of sets of works -/
theorem and_nt : ∀ s, s < 256 → ∀ y, y < 256 → (((nI s) &&& ((nI y) ^^^ (Int32.ofInt (-1))) = 0) ↔ s &&& y = s) := by
  intro s hs y hy
  have e : nI s &&& (nI y ^^^ Int32.ofInt (-1)) = 0 ↔ (BitVec.ofNat 32 s &&& (BitVec.ofNat 32 y ^^^ BitVec.ofInt 32 (-1))) = 0#32 := by
    rw [← Int32.toBitVec_inj]
    rfl
  rw [e]
  constructor
  · intro h
    refine Nat.eq_of_testBit_eq fun i => ?_
    rw [Nat.testBit_and]
    by_cases hi : i < 8
    · have h2 := congrArg (fun z => z.getLsbD i) h
      simp only [BitVec.getLsbD_and, BitVec.getLsbD_xor, BitVec.getLsbD_ofNat, BitVec.getLsbD_zero] at h2
      have h3 : (BitVec.ofInt 32 (-1)).getLsbD i = true := by
        have : ∀ i : Fin 8, (BitVec.ofInt 32 (-1)).getLsbD i.val = true := by decide
        exact this ⟨i, hi⟩
      rw [h3, decide_eq_true (show i < 32 by omega)] at h2
      cases e1 : s.testBit i <;> cases e2 : y.testBit i <;> rw [e1, e2] at h2 <;> first
        | rfl
        | (simp at h2)
    · rw [bN_hi hs (by omega)]
      rfl
  · intro h
    refine BitVec.eq_of_getLsbD_eq fun i hi => ?_
    rw [BitVec.getLsbD_and, BitVec.getLsbD_xor, BitVec.getLsbD_ofNat, BitVec.getLsbD_ofNat, BitVec.getLsbD_zero]
    cases e1 : s.testBit i with
    | false => rw [Bool.and_false, Bool.false_and]
    | true =>
      rw [← h, Nat.testBit_and, Bool.and_eq_true] at e1
      have i8 : i < 8 := Nat.lt_of_not_le fun h8 => by
        rw [bN_hi hs h8] at e1
        cases e1.1
      have h3 : (BitVec.ofInt 32 (-1)).getLsbD i = true := by
        have : ∀ i : Fin 8, (BitVec.ofInt 32 (-1)).getLsbD i.val = true := by decide
        exact this ⟨i, i8⟩
      rw [h3, e1.2, decide_eq_true hi]
      rfl
/-- the list of a person: below s all sets that are his, and they alone -/
def lsO (H : HS) (cd m p : Nat) (s : Nat) (M : aM) : Prop := ∃ n, n ≤ s ∧ M.1 74 p = nI n ∧ (∀ k, k < n → ∃ a, a < s ∧ M.1 73 (256 * p + k) = nI a ∧ sbs a cd ∧ fit H a m) ∧ ∀ a, a < s → sbs a cd → fit H a m → ∃ k, k < n ∧ M.1 73 (256 * p + k) = nI a
theorem mH_fr {M' : aM} (h : mHo H M) (h58 : ∀ k, M'.1 58 k = M.1 58 k) (h2 : ∀ a k, 59 ≤ a → a ≤ 64 → M'.1 a k = M.1 a k) : mHo H M' := by
  obtain ⟨g1, g2, g3, g4, g5, g6, g7, g8, g9, g10⟩ := h
  refine ⟨(h58 _).trans g1, (h58 _).trans g2, (h58 _).trans g3, (h58 _).trans g4, fun i hi => (h2 59 i (by decide) (by decide)).trans (g5 i hi), fun i hi => (h2 60 i (by decide) (by decide)).trans (g6 i hi), fun i hi => (h2 61 i (by decide) (by decide)).trans (g7 i hi), fun i hi => (h2 62 i (by decide) (by decide)).trans (g8 i hi), fun i w hi hw => (h2 63 _ (by decide) (by decide)).trans (g9 i w hi hw), fun k hk => ?_⟩
  obtain ⟨t0, t1, t2, t3⟩ := g10 k hk
  exact ⟨(h2 64 _ (by decide) (by decide)).trans t0, (h2 64 _ (by decide) (by decide)).trans t1, (h2 64 _ (by decide) (by decide)).trans t2, (h2 64 _ (by decide) (by decide)).trans t3⟩
def lofF (p : Nat) (M M' : aM) : Prop := (∀ a k, a ≠ 73 → a ≠ 74 → M'.1 a k = M.1 a k) ∧ (∀ q, q ≠ p → M'.1 74 q = M.1 74 q) ∧ ∀ q k, q ≠ p → k < 256 → M'.1 73 (256 * q + k) = M.1 73 (256 * q + k)
theorem lof_c (hl0 : l.1.stackTraces = false) (hR : ∀ e ∈ RM, M.2.2 e.1 e.2.1 = e.2.2) (hI : HI H) (hm : mHo H M) {p cd : Nat} (hp : p < H.pe) (hc : cd < 256) : AC l (pI pg 205) (fcV M (fun M' => lsO H cd (H.ho p) p (2 ^ H.wo) M' ∧ lofF p M M')) 0 0 [.ref 58, .int (nI p), .int (nI cd)] SHF M := by
  have w8 := hI.2.1
  have p6 := hI.1
  have h24 := hI.2.2.2.2.1 p hp
  have P8 := p2_8 w8
  refine fw_of hl0 ⟨by decide +kernel, by decide +kernel, by decide +kernel⟩ rfl ?_
  refine lof_0 hR hl0 (vp_in_nI (by omega) (by decide)) ?_
  rw [nI_clamp (n := p) (by omega)]
  have loop : ∀ (d s : Nat) (M1 : aM), s + d = 2 ^ H.wo → M1.2.2 = M.2.2 → lofF p M M1 → lsO H cd (H.ho p) p s M1 → AW l (pI pg 205) (fcV M (fun M' => lsO H cd (H.ho p) p (2 ^ H.wo) M' ∧ lofF p M M')) 0 0 9 [(3, .int (nI s)), (2, .int (nI cd)), (1, .int (nI p)), (0, .ref 58)] [] SHF M1 := by
    intro d
    induction d with
    | zero =>
      intro s M1 hs h1 h2 h3
      have es : s = 2 ^ H.wo := by omega
      subst es
      have g : Int32.ofInt 1 <<< (M1.1 58 2 &&& 31) ≤ nI (2 ^ H.wo) := by
        rw [h2.1 58 2 (by decide) (by decide), hm.2.1, shW w8]
        exact Int32.le_refl _
      exact lof_9 (by rw [h1]; exact hR) hl0 (fun _ => ⟨rfl, h1, rfl, h3, h2⟩) (fun h => absurd g h) (fun h => absurd g h) (fun _ _ => True) (fun h => absurd g h) (fun h => absurd g h) (fun h => absurd g h) (fun h => absurd g h)
    | succ d ih =>
      intro s M1 hs h1 h2 h3
      have m1 : mHo H M1 := mH_fr hm (fun k => h2.1 58 k (by decide) (by decide)) (fun a k a1 a2 => h2.1 a k (by omega) (by omega))
      have ng : ¬ Int32.ofInt 1 <<< (M1.1 58 2 &&& 31) ≤ nI s := by
        rw [m1.2.1, shW w8, nle (by omega) (by omega)]
        omega
      obtain ⟨n, n1, n2, n3, n4⟩ := h3
      have ho : M1.1 59 (nI p).toNatClampNeg = nI (H.ho p) := by
        rw [nI_clamp (by omega)]
        exact m1.2.2.2.2.1 p hp
      refine lof_9 (by rw [h1]; exact hR) hl0 (fun h => absurd h ng) (fun _ h3 => ?_) (fun _ _ => vp_in_nI (by omega) (by decide)) (fun y M' => M' = M1 ∧ ((y = Int32.ofInt 1 ∧ fit H s (H.ho p)) ∨ (y = Int32.ofInt 0 ∧ ¬ fit H s (H.ho p)))) (fun _ _ => by rw [ho]; exact fts_c hl0 (by rw [h1]; exact hR) hI m1 (by omega) h24) (fun _ h3 y6 M6 e6 q6 h8 => ?_) (fun _ h3 y6 M6 e6 q6 h8 => ?_) (fun _ h3 y6 M6 e6 q6 h8 => ?_)
      · rw [show nI s + Int32.ofInt 1 = nI (s + 1) from nI_1 s]
        rw [and_nt s (by omega) cd hc, ← sbs_and] at h3
        refine ih (s + 1) M1 (by omega) h1 h2 ⟨n, by omega, n2, fun k hk => ?_, fun a ha g1 g2 => ?_⟩
        · obtain ⟨a, a1, a2⟩ := n3 k hk
          exact ⟨a, by omega, a2⟩
        · by_cases e : a = s
          · subst e
            exact absurd g1 h3
          · exact n4 a (by omega) g1 g2
      · obtain ⟨rfl, -⟩ := q6
        rw [nI_clamp (n := p) (by omega), n2, z_256, nI_mulN, nI_add]
        exact vp_in_nI (by omega) (by decide)
      · obtain ⟨rfl, q6⟩ := q6
        have f6 : fit H s (H.ho p) := q6.elim (fun q => q.2) (fun q => absurd q.1 h8)
        rw [and_nt s (by omega) cd hc, ← sbs_and] at h3
        rw [show nI s + Int32.ofInt 1 = nI (s + 1) from nI_1 s, nI_clamp (n := p) (by omega), n2, z_256, nI_mulN, nI_add, nI_clamp (by omega)]
        have c74 : (aset M6 73 (256 * p + n) (.int (nI s))).1 74 p = nI n := n2
        rw [c74, show nI n + Int32.ofInt 1 = nI (n + 1) from nI_1 n]
        refine ih (s + 1) _ (by omega) h1 ⟨fun a k a1 a2 => ?_, fun q hq => ?_, fun q k hq hk => ?_⟩ ⟨n + 1, by omega, ?_, fun k hk => ?_, fun a ha g1 g2 => ?_⟩
        · rw [set_1, if_neg a2, set_1, if_neg a1]
          exact h2.1 a k a1 a2
        · rw [set_1, if_pos rfl, if_neg hq, set_1, if_neg (by decide)]
          exact h2.2.1 q hq
        · rw [set_1, if_neg (by decide), set_1, if_pos rfl, if_neg (by omega)]
          exact h2.2.2 q k hq hk
        · rw [set_1, if_pos rfl, if_pos rfl]
        · rw [set_1, if_neg (by decide), set_1, if_pos rfl]
          by_cases e : k = n
          · rw [if_pos (by omega)]
            exact ⟨s, by omega, rfl, h3, f6⟩
          · rw [if_neg (by omega)]
            obtain ⟨a, a1, a2⟩ := n3 k (by omega)
            exact ⟨a, by omega, a2⟩
        · by_cases e : a = s
          · refine ⟨n, by omega, ?_⟩
            rw [set_1, if_neg (by decide), set_1, if_pos rfl, if_pos rfl, e]
          · obtain ⟨k, k1, k2⟩ := n4 a (by omega) g1 g2
            refine ⟨k, by omega, ?_⟩
            rw [set_1, if_neg (by decide), set_1, if_pos rfl, if_neg (by omega)]
            exact k2
      · obtain ⟨rfl, q6⟩ := q6
        have f6 : ¬ fit H s (H.ho p) := q6.elim (fun q => absurd (q.1.symm.trans h8) (by decide)) (fun q => q.2)
        rw [show nI s + Int32.ofInt 1 = nI (s + 1) from nI_1 s]
        refine ih (s + 1) M6 (by omega) h1 h2 ⟨n, by omega, n2, fun k hk => ?_, fun a ha g1 g2 => ?_⟩
        · obtain ⟨a, a1, a2⟩ := n3 k hk
          exact ⟨a, by omega, a2⟩
        · by_cases e : a = s
          · subst e
            exact absurd g2 f6
          · exact n4 a (by omega) g1 g2
  refine loop (2 ^ H.wo) 0 _ (by omega) rfl ⟨fun a k a1 a2 => ?_, fun q hq => ?_, fun q k hq hk => rfl⟩ ⟨0, Nat.le_refl _, ?_, fun k hk => absurd hk (Nat.not_lt_zero _), fun a ha => absurd ha (Nat.not_lt_zero _)⟩
  · rw [set_1, if_neg a2]
  · rw [set_1, if_pos rfl, if_neg hq]
  · rw [set_1, if_pos rfl, if_pos rfl]
    rfl
end REFL2
section REFL3
variable {l : aL} {M : aM} {H : HS}
/-- what one can do, with the teachings of a set -/
def cdT (H : HS) (ts p : Nat) : Nat → Nat
  | 0 => H.cd p
  | k + 1 => cdT H ts p k ||| (if ts.testBit k = true ∧ H.t0 k = p then 2 ^ H.t1 k else 0)
theorem modb {c w : Nat} : c % 2 ^ (w + 1) = c % 2 ^ w ||| (if c.testBit w = true then 2 ^ w else 0) := by
  refine Nat.eq_of_testBit_eq fun i => ?_
  rw [Nat.testBit_or, Nat.testBit_mod_two_pow, Nat.testBit_mod_two_pow]
  by_cases e : i = w
  · subst e
    rw [decide_eq_true (Nat.lt_succ_self _), decide_eq_false (Nat.lt_irrefl _)]
    cases h : c.testBit i with
    | true => rw [if_pos rfl, Nat.testBit_two_pow_self]; rfl
    | false => rw [if_neg (by decide), Nat.zero_testBit]; rfl
  · have : (if c.testBit w = true then 2 ^ w else 0).testBit i = false := by
      split
      · exact Nat.testBit_two_pow_of_ne (fun h => e h.symm)
      · exact Nat.zero_testBit _
    rw [this, Bool.or_false]
    by_cases h : i < w
    · rw [decide_eq_true h, decide_eq_true (show i < w + 1 by omega)]
    · rw [decide_eq_false h, decide_eq_false (show ¬ i < w + 1 by omega)]
theorem cdT_lt (hI : HI H) {ts p : Nat} (hp : p < 6) : ∀ k, k ≤ H.te → cdT H ts p k < 256
  | 0, _ => (hI.2.2.2.2.2.2.2.2.1 p hp).1
  | k + 1, hk => by
    refine Nat.or_lt_two_pow (n := 8) (cdT_lt hI hp k (by omega)) ?_
    split
    · have h1 := (hI.2.2.2.2.2.2.2.2.2.2.2 k (by omega)).2.1
      have w8 := hI.2.1
      exact Nat.pow_lt_pow_right (by decide) (by omega)
    · decide
theorem cd_wo (hI : HI H) {p : Nat} (hp : p < 6) : H.cd p % 2 ^ H.wo = H.cd p := by
  refine Nat.mod_eq_of_lt (Nat.lt_pow_two_of_testBit _ fun i hi => ?_)
  obtain ⟨c1, c2⟩ := hI.2.2.2.2.2.2.2.2.1 p hp
  by_cases i8 : i < 8
  · cases e : (H.cd p).testBit i with
    | false => rfl
    | true =>
      have := (hI.2.2.2.2.2.2.2.1 p i hp i8).2 ((c2 i i8).mp e)
      omega
  · exact tb_no (w := 8) c1 (by omega)
def lsAll (H : HS) (ts N : Nat) (M : aM) : Prop := ∀ p, p < N → lsO H (cdT H ts p H.te) (H.ho p) p (2 ^ H.wo) M ∧ ∀ w, w < H.wo → M.1 75 (8 * p + w) = nI (H.sk (8 * p + w))
theorem lsO_fr {M' : aM} {cd m p s : Nat} (hs : s ≤ 256) (h : lsO H cd m p s M) (h1 : M'.1 74 p = M.1 74 p) (h2 : ∀ k, k < 256 → M'.1 73 (256 * p + k) = M.1 73 (256 * p + k)) : lsO H cd m p s M' := by
  obtain ⟨n, n1, n2, n3, n4⟩ := h
  refine ⟨n, n1, h1.trans n2, fun k hk => ?_, fun a ha g1 g2 => ?_⟩
  · obtain ⟨a, a1, a2, a3⟩ := n3 k hk
    exact ⟨a, a1, (h2 k (by omega)).trans a2, a3⟩
  · obtain ⟨k, k1, k2⟩ := n4 a ha g1 g2
    exact ⟨k, k1, (h2 k (by omega)).trans k2⟩
theorem or_0 {a : Nat} (ha : a < 2 ^ 31) : nI a ||| Int32.ofInt 0 = nI a := by
  rw [z_0, nI_orN ha (by decide), Nat.or_zero]
def QlA (H : HS) (ts : Nat) (M M' : aM) : Prop := lsAll H ts H.pe M' ∧ ∀ a k, a ≠ 73 → a ≠ 74 → a ≠ 75 → M'.1 a k = M.1 a k
theorem lal_c (hl0 : l.1.stackTraces = false) (hR : ∀ e ∈ RM, M.2.2 e.1 e.2.1 = e.2.2) (hI : HI H) (hm : mHo H M) {ts : Nat} (ht : ts < 256) : AC l (pI pg 204) (fcV M (QlA H ts M)) 0 0 [.ref 58, .int (nI ts)] SHF M := by
  have w8 := hI.2.1
  have p6 := hI.1
  have t8 := hI.2.2.1
  have P8 := p2_8 w8
  refine fw_of hl0 ⟨by decide +kernel, by decide +kernel, by decide +kernel⟩ rfl ?_
  refine lal_0 hR hl0 ?_
  have fr : ∀ {M1 : aM}, (∀ a k, a ≠ 73 → a ≠ 74 → a ≠ 75 → M1.1 a k = M.1 a k) → mHo H M1 := fun {M1} h => mH_fr hm (fun k => h 58 k (by decide) (by decide) (by decide)) (fun a k a1 a2 => h a k (by omega) (by omega) (by omega))
  have outer : ∀ (d p : Nat) (M1 : aM), p + d = H.pe → M1.2.2 = M.2.2 → (∀ a k, a ≠ 73 → a ≠ 74 → a ≠ 75 → M1.1 a k = M.1 a k) → lsAll H ts p M1 → AW l (pI pg 204) (fcV M (QlA H ts M)) 0 0 2 [(2, .int (nI p)), (1, .int (nI ts)), (0, .ref 58)] [] SHF M1 := by
    intro d
    induction d with
    | zero =>
      intro p M1 hp h1 h2 h3
      have ep : p = H.pe := by omega
      subst ep
      have m1 := fr h2
      exact lal_2 (by rw [h1]; exact hR) hl0 (fun _ => ⟨rfl, h1, rfl, h3, h2⟩) (fun h => absurd (by rw [m1.1]; exact Int32.le_refl _) h)
    | succ d ih =>
      intro p M1 hp h1 h2 h3
      have m1 := fr h2
      have p6' : p < 6 := by omega
      refine lal_2 (by rw [h1]; exact hR) hl0 (fun h => ge_no (a := p) (b := H.pe) (by omega) (by omega) (by rw [m1.1] at h; exact h)) (fun _ => ?_)
      have third : ∀ (d3 k : Nat) (M3 : aM), k + d3 = H.te → M3.2.2 = M.2.2 → (∀ a c, a ≠ 73 → a ≠ 74 → a ≠ 75 → M3.1 a c = M.1 a c) → lsAll H ts p M3 → (∀ w, w < H.wo → M3.1 75 (8 * p + w) = nI (H.sk (8 * p + w))) → AW l (pI pg 204) (fcV M (QlA H ts M)) 0 0 83 [(4, .int (nI k)), (3, .int (nI (cdT H ts p k))), (2, .int (nI p)), (1, .int (nI ts)), (0, .ref 58)] [] SHF M3 := by
        intro d3
        induction d3 with
        | zero =>
          intro k M3 hk g1 g2 g3 g4
          have ek : k = H.te := by omega
          subst ek
          have m3 := fr g2
          have le : M3.1 58 3 ≤ nI H.te := by rw [m3.2.2.1]; exact Int32.le_refl _
          refine lal_83 (by rw [g1]; exact hR) hl0 (fun M' => lsO H (cdT H ts p H.te) (H.ho p) p (2 ^ H.wo) M' ∧ lofF p M3 M') (fun _ => lof_c hl0 (by rw [g1]; exact hR) hI m3 (by omega) (cdT_lt hI p6' _ (Nat.le_refl _))) (fun _ M2 e2 q2 => ?_) (fun h => absurd le h) (fun h => absurd le h) (fun h => absurd le h) (fun h => absurd le h) (fun h => absurd le h)
          rw [show nI p + Int32.ofInt 1 = nI (p + 1) from nI_1 p]
          refine ih (p + 1) M2 (by omega) (e2.trans g1) (fun a c a1 a2 a3 => (q2.2.1 a c a1 a2).trans (g2 a c a1 a2 a3)) (fun q hq => ?_)
          by_cases e : q = p
          · subst e
            exact ⟨q2.1, fun w hw => (q2.2.1 75 _ (by decide) (by decide)).trans (g4 w hw)⟩
          · obtain ⟨u1, u2⟩ := g3 q (by omega)
            exact ⟨lsO_fr P8 u1 (q2.2.2.1 q e) (fun k hk => q2.2.2.2 q k e hk), fun w hw => (q2.2.1 75 _ (by decide) (by decide)).trans (u2 w hw)⟩
        | succ d3 ih3 =>
          intro k M3 hk g1 g2 g3 g4
          have m3 := fr g2
          have nle' : ¬ M3.1 58 3 ≤ nI k := by
            rw [m3.2.2.1, nle (by omega) (by omega)]
            omega
          have cl := cdT_lt hI (ts := ts) p6' k (by omega)
          obtain ⟨u0, u1, -, -⟩ := m3.2.2.2.2.2.2.2.2.2 k (by omega)
          obtain ⟨v0, v1, -⟩ := hI.2.2.2.2.2.2.2.2.2.2.2 k (by omega)
          refine lal_83 (by rw [g1]; exact hR) hl0 (fun _ => True) (fun h => absurd h nle') (fun h => absurd h nle') (fun _ h5 => ?_) (fun _ h5 => ?_) (fun _ h5 h8 => ?_) (fun _ h5 h8 => ?_) (fun _ h5 h8 => ?_)
          · rw [show nI k + Int32.ofInt 1 = nI (k + 1) from nI_1 k, or_0 (by omega)]
            rw [bitT (by omega) (by omega)] at h5
            have e : cdT H ts p (k + 1) = cdT H ts p k := by
              show cdT H ts p k ||| _ = _
              rw [if_neg (fun h => h5 h.1), Nat.or_zero]
            rw [← e]
            exact ih3 (k + 1) M3 (by omega) g1 g2 g3 g4
          · rw [show Int32.ofInt 4 * nI k = nI (4 * k) from nI_mulN 4 k]
            exact vp_in_nI (by omega) (by decide)
          · rw [show Int32.ofInt 4 * nI k = nI (4 * k) from nI_mulN 4 k, nI_clamp (by omega), u0, nI_eq (by omega) (by omega)] at h8
            rw [show nI k + Int32.ofInt 1 = nI (k + 1) from nI_1 k, or_0 (by omega)]
            have e : cdT H ts p (k + 1) = cdT H ts p k := by
              show cdT H ts p k ||| _ = _
              rw [if_neg (fun h => h8 h.2), Nat.or_zero]
            rw [← e]
            exact ih3 (k + 1) M3 (by omega) g1 g2 g3 g4
          · rw [show Int32.ofInt 4 * nI k = nI (4 * k) from nI_mulN 4 k, show nI (4 * k) + Int32.ofInt 1 = nI (4 * k + 1) from nI_1 _]
            exact vp_in_nI (by omega) (by decide)
          · rw [show Int32.ofInt 4 * nI k = nI (4 * k) from nI_mulN 4 k, nI_clamp (by omega), u0, nI_eq (by omega) (by omega)] at h8
            rw [bitT (by omega) (by omega)] at h5
            have p28 : 2 ^ H.t1 k ≤ 256 := p2_8 (by omega)
            rw [show nI k + Int32.ofInt 1 = nI (k + 1) from nI_1 k, show Int32.ofInt 4 * nI k = nI (4 * k) from nI_mulN 4 k, show nI (4 * k) + Int32.ofInt 1 = nI (4 * k + 1) from nI_1 _, nI_clamp (by omega), u1, shW (by omega), nI_orN (by omega) (by omega)]
            have e : cdT H ts p (k + 1) = cdT H ts p k ||| 2 ^ H.t1 k := by
              show cdT H ts p k ||| _ = _
              rw [if_pos ⟨h5, h8⟩]
            rw [← e]
            exact ih3 (k + 1) M3 (by omega) g1 g2 g3 g4
      have second : ∀ (d2 w : Nat) (M2 : aM), w + d2 = H.wo → M2.2.2 = M.2.2 → (∀ a c, a ≠ 73 → a ≠ 74 → a ≠ 75 → M2.1 a c = M.1 a c) → lsAll H ts p M2 → (∀ x, x < w → M2.1 75 (8 * p + x) = nI (H.sk (8 * p + x))) → AW l (pI pg 204) (fcV M (QlA H ts M)) 0 0 15 [(4, .int (nI w)), (3, .int (nI (H.cd p % 2 ^ w))), (2, .int (nI p)), (1, .int (nI ts)), (0, .ref 58)] [] SHF M2 := by
        intro d2
        induction d2 with
        | zero =>
          intro w M2 hw g1 g2 g3 g4
          have ew : w = H.wo := by omega
          subst ew
          have m2 := fr g2
          have le : M2.1 58 2 ≤ nI H.wo := by rw [m2.2.1]; exact Int32.le_refl _
          refine lal_15 (by rw [g1]; exact hR) hl0 (fun _ => ?_) (fun h => absurd le h) (fun h => absurd le h) (fun h => absurd le h)
          rw [cd_wo hI p6']
          exact third H.te 0 M2 (by omega) g1 g2 g3 g4
        | succ d2 ih2 =>
          intro w M2 hw g1 g2 g3 g4
          have m2 := fr g2
          have nle' : ¬ M2.1 58 2 ≤ nI w := by
            rw [m2.2.1, nle (by omega) (by omega)]
            omega
          have ix : (Int8.ofInt 8).toInt32 * nI p + nI w = nI (8 * p + w) := by rw [z_8, nI_mulN, nI_add]
          have sk := m2.2.2.2.2.2.2.2.2.1 p w (by omega) (by omega)
          obtain ⟨s1, s2⟩ := hI.2.2.2.2.2.2.2.1 p w p6' (by omega)
          obtain ⟨c1, c2⟩ := hI.2.2.2.2.2.2.2.2.1 p p6'
          have c2 := c2 w (by omega)
          have ml : H.cd p % 2 ^ w < 256 := Nat.lt_of_le_of_lt (Nat.mod_le _ _) c1
          have p28 : 2 ^ w ≤ 256 := p2_8 (by omega)
          have nx : ∀ v, v = H.cd p % 2 ^ (w + 1) → AW l (pI pg 204) (fcV M (QlA H ts M)) 0 0 15 [(4, .int (nI (w + 1))), (3, .int (nI v)), (2, .int (nI p)), (1, .int (nI ts)), (0, .ref 58)] [] SHF (aset M2 75 (8 * p + w) (.int (nI (H.sk (8 * p + w))))) := by
            intro v ev
            subst ev
            refine ih2 (w + 1) _ (by omega) g1 (fun a c a1 a2 a3 => ?_) (fun q hq => ?_) (fun x hx => ?_)
            · rw [set_1, if_neg a3]
              exact g2 a c a1 a2 a3
            · obtain ⟨u1, u2⟩ := g3 q hq
              refine ⟨lsO_fr P8 u1 rfl (fun k hk => rfl), fun x hx => ?_⟩
              rw [set_1, if_pos rfl, if_neg (by omega)]
              exact u2 x hx
            · rw [set_1, if_pos rfl]
              by_cases e : x = w
              · subst e
                rw [if_pos rfl]
              · rw [if_neg (by omega)]
                exact g4 x (by omega)
          refine lal_15 (by rw [g1]; exact hR) hl0 (fun h => absurd h nle') (fun _ => ?_) (fun _ h4 => ?_) (fun _ h4 => ?_)
          · rw [ix]
            exact vp_in_nI (by omega) (by decide)
          · rw [ix, nI_clamp (by omega), sk] at h4 ⊢
            have h4 : nI (H.sk (8 * p + w)) ≤ nI 0 := by
              rw [set_1, if_neg (by decide), sk] at h4
              exact h4
            rw [nle (by omega) (by omega)] at h4
            rw [show nI w + Int32.ofInt 1 = nI (w + 1) from nI_1 w, or_0 (by omega)]
            refine nx _ ?_
            rw [modb, if_neg (fun h => by have := c2.mp h; omega), Nat.or_zero]
          · rw [ix, nI_clamp (by omega), sk] at h4 ⊢
            have h4 : ¬ nI (H.sk (8 * p + w)) ≤ nI 0 := by
              rw [set_1, if_neg (by decide), sk] at h4
              exact h4
            rw [nle (by omega) (by omega)] at h4
            rw [show nI w + Int32.ofInt 1 = nI (w + 1) from nI_1 w, shW (by omega), nI_orN (by omega) (by omega)]
            refine nx _ ?_
            rw [modb, if_pos (c2.mpr (by omega))]
      have e0 : nI (H.cd p % 2 ^ 0) = Int32.ofInt 0 := by rw [Nat.pow_zero, Nat.mod_one]; rfl
      have := second H.wo 0 M1 (by omega) h1 h2 h3 (fun x hx => absurd hx (Nat.not_lt_zero _))
      rw [e0] at this
      exact this
  exact outer H.pe 0 M (by omega) rfl (fun _ _ _ _ _ => rfl) (fun q hq => absurd hq (Nat.not_lt_zero _))
end REFL3
