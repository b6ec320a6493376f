/-! ROWS: who does which work of a set; what a search reaches is what some row gives -/
def ownS (r : Nat → Nat) (p t : Nat) : Nat → Nat
  | 0 => 0
  | n + 1 => ownS r p t n ||| (if t.testBit n = true ∧ r n = p then 2 ^ n else 0)
theorem own_bit {r : Nat → Nat} {p t w : Nat} : ∀ {n : Nat}, (ownS r p t n).testBit w = true ↔ w < n ∧ t.testBit w = true ∧ r w = p
  | 0 => ⟨fun h => (by rw [ownS, Nat.zero_testBit] at h; cases h), fun h => absurd h.1 (Nat.not_lt_zero _)⟩
  | n + 1 => by
    show (ownS r p t n ||| _).testBit w = true ↔ _
    rw [Nat.testBit_or, Bool.or_eq_true, own_bit (n := n)]
    constructor
    · rintro (⟨h1, h2⟩ | h)
      · exact ⟨by omega, h2⟩
      · by_cases e : t.testBit n = true ∧ r n = p
        · rw [if_pos e, Nat.testBit_two_pow, decide_eq_true_eq] at h
          subst h
          exact ⟨Nat.lt_succ_self _, e⟩
        · rw [if_neg e, Nat.zero_testBit] at h
          cases h
    · rintro ⟨h1, h2⟩
      by_cases e : w = n
      · subst e
        exact Or.inr (by rw [if_pos h2, Nat.testBit_two_pow_self])
      · exact Or.inl ⟨by omega, h2⟩
theorem own_lt {r : Nat → Nat} {p t n : Nat} : ownS r p t n < 2 ^ n := Nat.lt_pow_two_of_testBit _ fun i hi => by
  cases e : (ownS r p t n).testBit i with
  | false => rfl
  | true =>
    have := (own_bit.mp e).1
    omega
theorem eqb {a b n : Nat} (ha : a < 2 ^ n) (hb : b < 2 ^ n) (h : ∀ w, w < n → (a.testBit w = true ↔ b.testBit w = true)) : a = b := by
  refine Nat.eq_of_testBit_eq fun i => ?_
  by_cases e : i < n
  · have := h i e
    cases e1 : a.testBit i <;> cases e2 : b.testBit i <;> rw [e1, e2] at this <;> first
      | rfl
      | exact absurd (this.mpr rfl) (by decide)
      | exact absurd (this.mp rfl) (by decide)
  · rw [tb_no ha (by omega), tb_no hb (by omega)]
def sumR (g : Nat → Nat → Int) (r : Nat → Nat) (t : Nat) : Nat → Int
  | 0 => 0
  | n + 1 => sumR g r t n + (if t.testBit n = true then g (r n) n else 0)
/-- a row of those who are left, below N, for the works of t -/
def rowO (H : HS) (cd : Nat → Nat) (lf N t : Nat) (r : Nat → Nat) : Prop := (∀ w, w < H.wo → t.testBit w = true → r w < N ∧ lf.testBit (r w) = true ∧ (cd (r w)).testBit w = true) ∧ ∀ p, p < N → fit H (ownS r p t H.wo) (H.ho p)
/-- .. which keeps to what is fixed -/
def fxO (fx : Nat → Int) (lf N t W : Nat) (r : Nat → Nat) : Prop := ∀ w, w < W → fx w = -1 ∨ (t.testBit w = true ∧ fx w = (r w : Int)) ∨ (t.testBit w = false ∧ ∀ p, p < N → lf.testBit p = true → fx w ≠ (p : Int))
theorem sum_split {g : Nat → Nat → Int} {r r' : Nat → Nat} {p a s t : Nat} : ∀ n, (∀ w, w < n → (a.testBit w = true → t.testBit w = true ∧ s.testBit w = false ∧ r w = p) ∧ (a.testBit w = false → t.testBit w = s.testBit w ∧ (s.testBit w = true → r w = r' w))) → sumR g r t n = sumR g r' s n + gvS (g p) n a
  | 0, _ => rfl
  | n + 1, h => by
    have ih := sum_split (g := g) n (fun w hw => h w (by omega))
    obtain ⟨h1, h2⟩ := h n (Nat.lt_succ_self _)
    show sumR g r t n + (if t.testBit n = true then g (r n) n else 0) = sumR g r' s n + (if s.testBit n = true then g (r' n) n else 0) + (gvS (g p) n a + (if a.testBit n = true then g p n else 0))
    rw [ih]
    cases e : a.testBit n with
    | true =>
      obtain ⟨u1, u2, u3⟩ := h1 e
      rw [u1, u2, u3, if_pos rfl, if_neg (by decide)]
      omega
    | false =>
      obtain ⟨u1, u2⟩ := h2 e
      rw [u1, if_neg (show ¬ false = true by decide)]
      cases e2 : s.testBit n with
      | true =>
        rw [u2 e2, if_pos rfl]
        omega
      | false =>
        rw [if_neg (by decide), if_neg (by decide)]
        omega
section ROW
variable {H : HS} {cd : Nat → Nat} {lf : Nat}
theorem Rch_row {D : rD} {fx : Nat → Int} {N : Nat} (hW : dW D = H.wo) (hl : dLf D = lf) (hL : hLs H cd N D) : ∀ p, p ≤ N → ∀ t, t < 2 ^ H.wo → ∀ v, Rch D fx p t v ↔ ∃ r, rowO H cd lf p t r ∧ fxO fx lf p t H.wo r ∧ v = sumR (dG D) r t H.wo := by
  intro p
  induction p with
  | zero =>
    intro _ t ht v
    constructor
    · rintro ⟨rfl, rfl⟩
      refine ⟨fun _ => 0, ⟨fun w _ h => ?_, fun p hp => absurd hp (Nat.not_lt_zero _)⟩, fun w _ => Or.inr (Or.inr ⟨Nat.zero_testBit _, fun p hp => absurd hp (Nat.not_lt_zero _)⟩), ?_⟩
      · rw [Nat.zero_testBit] at h
        cases h
      · have : ∀ n, sumR (dG D) (fun _ => 0) 0 n = 0 := by
          intro n
          induction n with
          | zero => rfl
          | succ n ih =>
            show sumR (dG D) (fun _ => 0) 0 n + _ = 0
            rw [ih, Nat.zero_testBit]
            rfl
        exact (this _).symm
    · rintro ⟨r, ⟨h1, -⟩, -, h3⟩
      have t0 : t = 0 := eqb ht (Nat.two_pow_pos _) (fun w hw => ⟨fun h => absurd (h1 w hw h).1 (Nat.not_lt_zero _), fun h => (by rw [Nat.zero_testBit] at h; cases h)⟩)
      subst t0
      refine ⟨rfl, ?_⟩
      have : ∀ n, sumR (dG D) r 0 n = 0 := by
        intro n
        induction n with
        | zero => rfl
        | succ n ih =>
          show sumR (dG D) r 0 n + _ = 0
          rw [ih, Nat.zero_testBit]
          rfl
      rw [h3, this]
  | succ p ih =>
    intro hp t ht v
    have ih := ih (by omega)
    constructor
    · rintro (⟨h1, s, u, k, hk, hs, ho, h4, h5, h6, h7⟩ | ⟨h1, h2⟩)
      · rw [hl] at h1
        rw [hW] at hs
        obtain ⟨g1, g2, g3⟩ := (hL p (by omega) _).mp ⟨k, hk, rfl⟩
        generalize ea : dL D p k = a at *
        obtain ⟨r', ⟨f1, f2⟩, f3, f4⟩ := (ih s hs u).mp h6
        have bo : ∀ w, t.testBit w = (s.testBit w || a.testBit w) := fun w => bit_or h5 w
        have bd : ∀ w, a.testBit w = true → s.testBit w = false := fun w hw => by
          have := bit_and h4 w
          rw [hw, Bool.and_true] at this
          exact this
        have rT : ∀ w, a.testBit w = true → (if a.testBit w = true then p else r' w) = p := fun w h => if_pos h
        have rF : ∀ w, a.testBit w = false → (if a.testBit w = true then p else r' w) = r' w := fun w h => if_neg (by rw [h]; decide)
        refine ⟨fun w => if a.testBit w = true then p else r' w, ⟨fun w hw h => ?_, fun q hq => ?_⟩, fun w hw => ?_, ?_⟩
        · show (if a.testBit w = true then p else r' w) < p + 1 ∧ lf.testBit (if a.testBit w = true then p else r' w) = true ∧ (cd (if a.testBit w = true then p else r' w)).testBit w = true
          cases e : a.testBit w with
          | true =>
            rw [if_pos rfl]
            exact ⟨Nat.lt_succ_self _, h1, g2 w e⟩
          | false =>
            rw [bo w, e, Bool.or_false] at h
            rw [if_neg (by decide)]
            obtain ⟨y1, y2⟩ := f1 w hw h
            exact ⟨by omega, y2⟩
        · by_cases e : q = p
          · subst e
            have : ownS (fun w => if a.testBit w = true then q else r' w) q t H.wo = a := eqb own_lt g1 (fun w hw => by
              rw [own_bit]
              constructor
              · rintro ⟨-, y1, y2⟩
                cases e : a.testBit w with
                | true => rfl
                | false =>
                  rw [bo w, e, Bool.or_false] at y1
                  have y2 : (if a.testBit w = true then q else r' w) = q := y2
                  rw [rF w e] at y2
                  have := (f1 w hw y1).1
                  omega
              · intro y
                exact ⟨hw, by rw [bo w, y, Bool.or_true], rT w y⟩)
            rw [this]
            exact g3
          · have : ownS (fun w => if a.testBit w = true then p else r' w) q t H.wo = ownS r' q s H.wo := eqb own_lt own_lt (fun w hw => by
              rw [own_bit, own_bit]
              refine and_congr Iff.rfl ?_
              show (t.testBit w = true ∧ (if a.testBit w = true then p else r' w) = q) ↔ _
              cases e2 : a.testBit w with
              | true =>
                rw [if_pos rfl, bd w e2]
                exact ⟨fun y => absurd y.2.symm e, fun y => absurd y.1 (by decide)⟩
              | false =>
                rw [if_neg (by decide), bo w, e2, Bool.or_false])
            rw [this]
            exact f2 q (by omega)
        · by_cases y0 : fx w = -1
          · exact Or.inl y0
          · have y1 := (ho w (by rw [hW]; exact hw)).resolve_left y0
            refine Or.inr ?_
            show (t.testBit w = true ∧ fx w = ((if a.testBit w = true then p else r' w : Nat) : Int)) ∨ _
            rcases (f3 w hw).resolve_left y0 with ⟨y2, y3⟩ | ⟨y2, y3⟩
            · have e : a.testBit w = false := by
                cases e : a.testBit w with
                | false => rfl
                | true =>
                  rw [bd w e] at y2
                  cases y2
              rw [rF w e]
              exact Or.inl ⟨by rw [bo w, y2, Bool.true_or], y3⟩
            · cases e : a.testBit w with
              | true =>
                rw [if_pos rfl]
                exact Or.inl ⟨by rw [bo w, e, Bool.or_true], y1.mp e⟩
              | false =>
                refine Or.inr ⟨by rw [bo w, e, y2]; rfl, fun q hq hq2 hq3 => ?_⟩
                by_cases e3 : q = p
                · subst e3
                  have := y1.mpr hq3
                  rw [e] at this
                  cases this
                · exact y3 q (by omega) hq2 hq3
        · rw [h7, hW, f4]
          refine (sum_split (r' := r') H.wo (fun w hw => ⟨fun e => ⟨by rw [bo w, e, Bool.or_true], bd w e, rT w e⟩, fun e => ⟨by rw [bo w, e, Bool.or_false], fun _ => rF w e⟩⟩)).symm
      · rw [hl] at h1
        obtain ⟨r, ⟨f1, f2⟩, f3, f4⟩ := (ih t ht v).mp h2
        refine ⟨r, ⟨fun w hw h => ?_, fun q hq => ?_⟩, fun w hw => ?_, f4⟩
        · obtain ⟨y1, y2⟩ := f1 w hw h
          exact ⟨by omega, y2⟩
        · by_cases e : q = p
          · have : ownS r q t H.wo = 0 := eqb own_lt (Nat.two_pow_pos _) (fun w hw => by
              rw [own_bit, Nat.zero_testBit]
              constructor
              · rintro ⟨-, y1, y2⟩
                have := (f1 w hw y1).1
                omega
              · intro y
                cases y)
            rw [this]
            exact fit_0
          · exact f2 q (by omega)
        · rcases f3 w hw with y | y | ⟨y1, y2⟩
          · exact Or.inl y
          · exact Or.inr (Or.inl y)
          · refine Or.inr (Or.inr ⟨y1, fun q hq hq2 => ?_⟩)
            by_cases e : q = p
            · subst e
              rw [h1] at hq2
              cases hq2
            · exact y2 q (by omega) hq2
    · rintro ⟨r, ⟨f1, f2⟩, f3, f4⟩
      cases h1 : lf.testBit p with
      | false =>
        refine Or.inr ⟨by rw [hl]; exact h1, (ih t ht v).mpr ⟨r, ⟨fun w hw h => ?_, fun q hq => f2 q (by omega)⟩, fun w hw => ?_, f4⟩⟩
        · obtain ⟨y1, y2, y3⟩ := f1 w hw h
          have : r w ≠ p := fun e => by
            rw [e, h1] at y2
            cases y2
          exact ⟨by omega, y2, y3⟩
        · rcases f3 w hw with y | y | ⟨y1, y2⟩
          · exact Or.inl y
          · exact Or.inr (Or.inl y)
          · exact Or.inr (Or.inr ⟨y1, fun q hq hq2 => y2 q (by omega) hq2⟩)
      | true =>
        have ab : ∀ w, w < H.wo → ((ownS r p t H.wo).testBit w = true ↔ t.testBit w = true ∧ r w = p) := fun w hw => own_bit.trans ⟨fun y => y.2, fun y => ⟨hw, y⟩⟩
        have g1 : ownS r p t H.wo < 2 ^ H.wo := own_lt
        have gs : sbs (ownS r p t H.wo) t := fun w hw => (own_bit.mp hw).2.1
        have g2 : sbs (ownS r p t H.wo) (cd p) := fun w hw => by
          obtain ⟨y1, y2, y3⟩ := own_bit.mp hw
          have := (f1 w y1 y2).2.2
          rw [y3] at this
          exact this
        have g3 := f2 p (Nat.lt_succ_self _)
        generalize ownS r p t H.wo = a at *
        obtain ⟨k, hk, ek⟩ := (hL p (by omega) a).mpr ⟨g1, g2, g3⟩
        obtain ⟨d1, d2⟩ := dsj' gs
        have sl : t ^^^ a < 2 ^ H.wo := Nat.xor_lt_two_pow ht g1
        have sb : ∀ w, (t ^^^ a).testBit w = (t.testBit w != a.testBit w) := fun w => Nat.testBit_xor ..
        have st : ∀ w, w < H.wo → ((t ^^^ a).testBit w = true ↔ t.testBit w = true ∧ r w ≠ p) := fun w hw => by
          rw [sb w]
          have y := ab w hw
          cases e1 : t.testBit w <;> cases e2 : a.testBit w <;> rw [e1, e2] at y
          · exact ⟨fun z => (by cases z), fun z => absurd z.1 (by decide)⟩
          · exact absurd (y.mp rfl).1 (by decide)
          · exact ⟨fun _ => ⟨rfl, fun z => absurd (y.mpr ⟨rfl, z⟩) (by decide)⟩, fun _ => rfl⟩
          · exact ⟨fun z => (by cases z), fun z => absurd (y.mp rfl).2 z.2⟩
        have tf : ∀ w, w < H.wo → (t ^^^ a).testBit w = false → t.testBit w = false ∨ r w = p := fun w hw y => by
          cases e1 : t.testBit w with
          | false => exact Or.inl rfl
          | true =>
            refine Or.inr (Classical.byContradiction fun z => ?_)
            rw [(st w hw).mpr ⟨e1, z⟩] at y
            cases y
        refine Or.inl ⟨by rw [hl]; exact h1, t ^^^ a, sumR (dG D) r (t ^^^ a) H.wo, k, hk, by rw [hW]; exact sl, fun w hw => ?_, by rw [ek]; exact d1, by rw [ek]; exact d2, (ih _ sl _).mpr ⟨r, ⟨fun w hw h => ?_, fun q hq => ?_⟩, fun w hw => ?_, rfl⟩, ?_⟩
        · rw [hW] at hw
          rw [ek]
          rcases f3 w hw with y | ⟨y1, y2⟩ | ⟨y1, y2⟩
          · exact Or.inl y
          · refine Or.inr ((ab w hw).trans ?_)
            rw [y2]
            exact ⟨fun z => by rw [z.2], fun z => ⟨y1, by omega⟩⟩
          · refine Or.inr ((ab w hw).trans ⟨fun z => ?_, fun z => absurd z (y2 p (Nat.lt_succ_self _) h1)⟩)
            rw [y1] at z
            exact absurd z.1 (by decide)
        · obtain ⟨y1, y2⟩ := (st w hw).mp h
          obtain ⟨z1, z2⟩ := f1 w hw y1
          exact ⟨by omega, z2⟩
        · have : ownS r q (t ^^^ a) H.wo = ownS r q t H.wo := eqb own_lt own_lt (fun w hw => by
            rw [own_bit, own_bit]
            refine and_congr Iff.rfl ⟨fun z => ⟨((st w hw).mp z.1).1, z.2⟩, fun z => ⟨(st w hw).mpr ⟨z.1, by omega⟩, z.2⟩⟩)
          rw [this]
          exact f2 q (by omega)
        · rcases f3 w hw with y | ⟨y1, y2⟩ | ⟨y1, y2⟩
          · exact Or.inl y
          · refine Or.inr ?_
            by_cases e : r w = p
            · refine Or.inr ⟨?_, fun q hq _ => by omega⟩
              cases e2 : (t ^^^ a).testBit w with
              | false => rfl
              | true => exact absurd e ((st w hw).mp e2).2
            · exact Or.inl ⟨(st w hw).mpr ⟨y1, e⟩, y2⟩
          · refine Or.inr (Or.inr ⟨?_, fun q hq hq2 => y2 q (by omega) hq2⟩)
            cases e2 : (t ^^^ a).testBit w with
            | false => rfl
            | true =>
              rw [((st w hw).mp e2).1] at y1
              cases y1
        · rw [f4, ek, hW]
          refine sum_split H.wo (fun w hw => ⟨fun e => ?_, fun e => ?_⟩)
          · obtain ⟨y1, y2⟩ := (ab w hw).mp e
            refine ⟨y1, ?_, y2⟩
            cases e2 : (t ^^^ a).testBit w with
            | false => rfl
            | true => exact absurd y2 ((st w hw).mp e2).2
          · refine ⟨?_, fun _ => rfl⟩
            rw [sb w, e]
            cases t.testBit w <;> rfl
end ROW
/-! THE CLASS'S ROWS: what its table of ranks holds, one person after the other -/
section RK
variable {H : HS} {cd : Nat → Nat} {g : Nat → Nat → Int} {lf : Nat}
/-- the class's search in the reference's words: of each person all sets that are his -/
noncomputable def mkC (H : HS) (cd : Nat → Nat) (g : Nat → Nat → Int) (lf : Nat) : rD := (H.wo, fun p k => @ite Nat (sbs k (cd p) ∧ fit H k (H.ho p)) (Classical.propDecidable _) k 0, fun _ => 2 ^ H.wo, g, lf)
theorem mkC_1 {p k : Nat} (h : sbs k (cd p) ∧ fit H k (H.ho p)) : dL (mkC H cd g lf) p k = k := if_pos h
theorem mkC_0 {p : Nat} : dL (mkC H cd g lf) p 0 = 0 := by
  show @ite Nat _ (Classical.propDecidable _) 0 0 = 0
  split <;> rfl
theorem mkC_L {N : Nat} : hLs H cd N (mkC H cd g lf) := by
  intro p _ a
  constructor
  · rintro ⟨k, hk, rfl⟩
    have hk : k < 2 ^ H.wo := hk
    by_cases h : sbs k (cd p) ∧ fit H k (H.ho p)
    · rw [mkC_1 h]
      exact ⟨hk, h⟩
    · have : dL (mkC H cd g lf) p k = 0 := if_neg h
      rw [this]
      exact ⟨Nat.two_pow_pos _, fun w hw => (by rw [Nat.zero_testBit] at hw; cases hw), fit_0⟩
  · rintro ⟨h1, h2⟩
    exact ⟨a, h1, mkC_1 h2⟩
def fx0 : Nat → Int := fun _ => -1
theorem fx0_ok {p t : Nat} {W : Nat} : okA W fx0 p t := fun _ _ => Or.inl rfl
theorem gvS_0 {f : Nat → Int} : ∀ n, gvS f n 0 = 0
  | 0 => rfl
  | n + 1 => by
    show gvS f n 0 + _ = 0
    rw [gvS_0 n, Nat.zero_testBit]
    rfl
theorem gvS_ge {f : Nat → Int} {t : Nat} : ∀ n, (∀ w, w < n → 0 ≤ f w) → 0 ≤ gvS f n t
  | 0, _ => Int.le_refl _
  | n + 1, h => by
    have := gvS_ge (t := t) n (fun w hw => h w (by omega))
    have := h n (Nat.lt_succ_self _)
    show 0 ≤ gvS f n t + _
    split <;> omega
theorem gvS_le {f : Nat → Int} {t : Nat} {G : Int} (hG : 0 ≤ G) : ∀ n, (∀ w, w < n → f w ≤ G) → gvS f n t ≤ n * G
  | 0, _ => by
    show (0 : Int) ≤ _
    rw [show ((0 : Nat) : Int) * G = 0 from Int.zero_mul _]
    exact Int.le_refl _
  | n + 1, h => by
    have h1 := gvS_le (t := t) hG n (fun w hw => h w (by omega))
    have h2 := h n (Nat.lt_succ_self _)
    show gvS f n t + _ ≤ _
    rw [show ((n + 1 : Nat) : Int) * G = n * G + G by rw [Int.natCast_succ, Int.add_mul, Int.one_mul]]
    split <;> omega
/-- one person more: of each set the best of what he may do of it -/
def admA (H : HS) (c m : Nat) (f : Nat → Int) (t a : Nat) : Prop := 0 < a ∧ a &&& (t &&& c) = a ∧ fit H a m ∧ f (t ^^^ a) ≠ -1
theorem Best_add {f f' : Nat → Int} {p : Nat} (hg : ∀ w, w < H.wo → 0 ≤ g p w) (hl : lf.testBit p = true) (h : Best (Rch (mkC H cd g lf) fx0 p) H.wo f) (h' : ∀ t, t < 2 ^ H.wo → (f' t = f t ∨ ∃ a, admA H (cd p) (H.ho p) f t a ∧ f' t = f (t ^^^ a) + gvS (g p) H.wo a) ∧ f t ≤ f' t ∧ ∀ a, admA H (cd p) (H.ho p) f t a → f (t ^^^ a) + gvS (g p) H.wo a ≤ f' t) : Best (Rch (mkC H cd g lf) fx0 (p + 1)) H.wo f' := by
  intro t ht
  obtain ⟨h1, h2, h3⟩ := h' t ht
  have up : ∀ v, Rch (mkC H cd g lf) fx0 (p + 1) t v → v ≤ f' t ∧ 0 ≤ f' t := by
    rintro v (⟨-, s, u, k, hk, hs, -, g4, g5, g6, g7⟩ | ⟨e, -⟩)
    · have hs : s < 2 ^ H.wo := hs
      obtain ⟨d1, d2⟩ := dsj g4 g5
      obtain ⟨k1, k2, k3⟩ := (mkC_L (H := H) (cd := cd) (g := g) (lf := lf) (N := p + 1) p (Nat.lt_succ_self _) _).mp ⟨k, hk, rfl⟩
      generalize dL (mkC H cd g lf) p k = a at *
      have ga := gvS_ge (t := a) H.wo hg
      have g7 : v = u + gvS (g p) H.wo a := g7
      rcases h s hs with ⟨-, b⟩ | ⟨a1, a2, a3⟩
      · exact absurd g6 (b u)
      · have u1 := a3 u g6
        by_cases a0 : a = 0
        · subst a0
          rw [Nat.xor_zero] at d1
          subst d1
          rw [gvS_0] at g7
          omega
        · have := h3 a ⟨by omega, sbs_and.mp (fun w hw => by rw [Nat.testBit_and, d2 w hw, k2 w hw]; rfl), k3, by rw [← d1]; omega⟩
          rw [← d1] at this
          omega
    · rw [show dLf (mkC H cd g lf) = lf from rfl, hl] at e
      cases e
  by_cases e : f' t = -1
  · exact Or.inl ⟨e, fun v hv => by have := up v hv; omega⟩
  · refine Or.inr ?_
    rcases h1 with h1 | ⟨a, ⟨a1, a2, a3, a4⟩, h1⟩
    · rcases h t ht with ⟨b, -⟩ | ⟨b1, b2, -⟩
      · exact absurd (h1.trans b) e
      · rw [h1] at up ⊢
        refine ⟨b1, Or.inl ⟨hl, t, f t, 0, Nat.two_pow_pos _, ht, fx0_ok, by rw [mkC_0]; exact Nat.and_zero _, by rw [mkC_0]; exact Nat.or_zero _, b2, ?_⟩, fun v hv => (up v hv).1⟩
        rw [mkC_0]
        show f t = f t + gvS (g p) H.wo 0
        rw [gvS_0]
        omega
    · have hs := sbs_and.mpr a2
      have s1 : sbs a t := fun w hw => by
        have := hs w hw
        rw [Nat.testBit_and, Bool.and_eq_true] at this
        exact this.1
      have s2 : sbs a (cd p) := fun w hw => by
        have := hs w hw
        rw [Nat.testBit_and, Bool.and_eq_true] at this
        exact this.2
      have al : a < 2 ^ H.wo := Nat.lt_of_le_of_lt (Nat.le_of_testBit s1) ht
      obtain ⟨d1, d2⟩ := dsj' s1
      have xl : t ^^^ a < 2 ^ H.wo := Nat.xor_lt_two_pow ht al
      have ga := gvS_ge (t := a) H.wo hg
      rcases h (t ^^^ a) xl with ⟨b, -⟩ | ⟨b1, b2, -⟩
      · exact absurd b a4
      · rw [h1] at up ⊢
        refine ⟨by omega, Or.inl ⟨hl, t ^^^ a, f (t ^^^ a), a, al, xl, fx0_ok, by rw [mkC_1 ⟨s2, a3⟩]; exact d1, by rw [mkC_1 ⟨s2, a3⟩]; exact d2, b2, ?_⟩, fun v hv => (up v hv).1⟩
        rw [mkC_1 ⟨s2, a3⟩]
        rfl
theorem Best_non {f : Nat → Int} {p : Nat} (hl : lf.testBit p = false) (h : Best (Rch (mkC H cd g lf) fx0 p) H.wo f) : Best (Rch (mkC H cd g lf) fx0 (p + 1)) H.wo f := Best.pass (D := mkC H cd g lf) hl h
theorem sumR_le {r : Nat → Nat} {t : Nat} {G : Int} (hG : 0 ≤ G) : ∀ n, (∀ w, w < n → t.testBit w = true → g (r w) w ≤ G) → sumR g r t n ≤ n * G
  | 0, _ => by
    show (0 : Int) ≤ _
    rw [show ((0 : Nat) : Int) * G = 0 from Int.zero_mul _]
    exact Int.le_refl _
  | n + 1, h => by
    have h1 := sumR_le (r := r) (t := t) hG n (fun w hw => h w (by omega))
    have h2 := h n (Nat.lt_succ_self _)
    show sumR g r t n + _ ≤ _
    rw [show ((n + 1 : Nat) : Int) * G = n * G + G by rw [Int.natCast_succ, Int.add_mul, Int.one_mul]]
    split
    · next e =>
        have := h2 e
        omega
    · omega
/-- no sum in the table is above so many times the greatest gain -/
theorem Best_le {f : Nat → Int} {N : Nat} {G : Int} (hG : 0 ≤ G) (hg : ∀ p w, p < N → w < H.wo → g p w ≤ G) (h : Best (Rch (mkC H cd g lf) fx0 N) H.wo f) {t : Nat} (ht : t < 2 ^ H.wo) : -1 ≤ f t ∧ f t ≤ H.wo * G := by
  have := Int.mul_nonneg (Int.natCast_nonneg H.wo) hG
  rcases h t ht with ⟨a, -⟩ | ⟨a, b, -⟩
  · omega
  · obtain ⟨r, r1, -, r3⟩ := (Rch_row (H := H) (cd := cd) (lf := lf) (N := N) (D := mkC H cd g lf) rfl rfl mkC_L N (Nat.le_refl _) t ht _).mp b
    have := sumR_le (g := g) (r := r) (t := t) hG H.wo (fun w hw hb => hg _ _ (r1.1 w hw hb).1 hw)
    have r3 : f t = sumR g r t H.wo := r3
    omega
end RK
/-! THE BEST ROW: skills together, then the row as a number in eights -/
def skG (H : HS) (p w : Nat) : Int := (H.sk (8 * p + w) : Int)
def cdG (p w : Nat) : Int := ((7 - p : Nat) : Int) * ((8 ^ (7 - w) : Nat) : Int)
def rkG (H : HS) (p w : Nat) : Int := 16777216 * skG H p w + cdG p w
theorem sumR_lin {H : HS} {r : Nat → Nat} {t : Nat} : ∀ n, sumR (rkG H) r t n = 16777216 * sumR (skG H) r t n + sumR cdG r t n
  | 0 => rfl
  | n + 1 => by
    show sumR (rkG H) r t n + _ = 16777216 * (sumR (skG H) r t n + _) + (sumR cdG r t n + _)
    rw [sumR_lin n]
    unfold rkG
    split <;> omega
/-- the row's number lies below a power of eight, and is not below 0 -/
theorem cod_lt {r : Nat → Nat} {t : Nat} : ∀ n, n ≤ 8 → 0 ≤ sumR cdG r t n ∧ sumR cdG r t n + ((8 ^ (8 - n) : Nat) : Int) ≤ 16777216
  | 0, _ => ⟨Int.le_refl _, show (0 : Int) + ((8 ^ 8 : Nat) : Int) ≤ 16777216 by decide⟩
  | n + 1, hn => by
    obtain ⟨h1, h2⟩ := cod_lt (r := r) (t := t) n (by omega)
    have e : 8 - n = (7 - n) + 1 := by omega
    have e2 : 8 - (n + 1) = 7 - n := by omega
    rw [e, Nat.pow_succ] at h2
    rw [e2]
    have hc : cdG (r n) n = ((7 - r n : Nat) : Int) * ((8 ^ (7 - n) : Nat) : Int) := rfl
    have h7 : 7 - r n ≤ 7 := Nat.sub_le _ _
    generalize 8 ^ (7 - n) = q at *
    have b1 : ((7 - r n : Nat) : Int) * (q : Int) ≤ 7 * (q : Int) := Int.mul_le_mul_of_nonneg_right (by omega) (Int.natCast_nonneg _)
    have b0 : 0 ≤ ((7 - r n : Nat) : Int) * (q : Int) := Int.mul_nonneg (Int.natCast_nonneg _) (Int.natCast_nonneg _)
    show 0 ≤ sumR cdG r t n + _ ∧ sumR cdG r t n + _ + _ ≤ _
    rw [hc]
    generalize ((7 - r n : Nat) : Int) * (q : Int) = z at *
    split <;> omega
theorem cod_in {r : Nat → Nat} {t n : Nat} (hn : n ≤ 8) : 0 ≤ sumR cdG r t n ∧ sumR cdG r t n < 16777216 := by
  obtain ⟨h1, h2⟩ := cod_lt (r := r) (t := t) n hn
  have : 0 < 8 ^ (8 - n) := Nat.pow_pos (by decide)
  omega
/-- all skills of the best row; -1: there is none -/
def dyP (H : HS) (lf : Nat) (S : Int) : Prop := (0 ≤ S ∧ (∃ r, rowO H H.cd lf H.pe (2 ^ H.wo - 1) r ∧ sumR (skG H) r (2 ^ H.wo - 1) H.wo = S) ∧ ∀ r, rowO H H.cd lf H.pe (2 ^ H.wo - 1) r → sumR (skG H) r (2 ^ H.wo - 1) H.wo ≤ S) ∨ (S = -1 ∧ ∀ r, ¬ rowO H H.cd lf H.pe (2 ^ H.wo - 1) r)
theorem dyP_u {H : HS} {lf : Nat} {S S' : Int} (h : dyP H lf S) (h' : dyP H lf S') : S = S' := by
  rcases h with ⟨-, ⟨r, r1, r2⟩, h2⟩ | ⟨h1, h2⟩ <;> rcases h' with ⟨-, ⟨r', r1', r2'⟩, h2'⟩ | ⟨h1', h2'⟩
  · have := h2 r' r1'
    have := h2' r r1
    omega
  · exact absurd r1 (h2' r)
  · exact absurd r1' (h2 r')
  · omega
/-- by ranks -/
theorem rk_dy {H : HS} {lf : Nat} {f : Nat → Int} (w8 : H.wo ≤ 8) (h : Best (Rch (mkC H H.cd (rkG H) lf) fx0 H.pe) H.wo f) : (f (2 ^ H.wo - 1) = -1 ∧ dyP H lf (-1)) ∨ ∃ S c : Int, ∃ r, f (2 ^ H.wo - 1) = 16777216 * S + c ∧ 0 ≤ S ∧ 0 ≤ c ∧ c < 16777216 ∧ dyP H lf S ∧ rowO H H.cd lf H.pe (2 ^ H.wo - 1) r ∧ sumR (skG H) r (2 ^ H.wo - 1) H.wo = S ∧ sumR cdG r (2 ^ H.wo - 1) H.wo = c ∧ ∀ r', rowO H H.cd lf H.pe (2 ^ H.wo - 1) r' → sumR (skG H) r' (2 ^ H.wo - 1) H.wo = S → sumR cdG r' (2 ^ H.wo - 1) H.wo ≤ c := by
  have P := Nat.two_pow_pos H.wo
  have key := fun v => Rch_row (H := H) (cd := H.cd) (lf := lf) (N := H.pe) (D := mkC H H.cd (rkG H) lf) (fx := fx0) rfl rfl mkC_L H.pe (Nat.le_refl _) (2 ^ H.wo - 1) (by omega) v
  have fxr : ∀ r, fxO fx0 lf H.pe (2 ^ H.wo - 1) H.wo r := fun r w _ => Or.inl rfl
  rcases h (2 ^ H.wo - 1) (by omega) with ⟨a, b⟩ | ⟨a, b, c⟩
  · exact Or.inl ⟨a, Or.inr ⟨rfl, fun r hr => b _ ((key _).mpr ⟨r, hr, fxr r, rfl⟩)⟩⟩
  · obtain ⟨r, r1, -, r3⟩ := (key _).mp b
    have r3 : f (2 ^ H.wo - 1) = sumR (rkG H) r (2 ^ H.wo - 1) H.wo := r3
    rw [sumR_lin] at r3
    have c1 := cod_in (r := r) (t := 2 ^ H.wo - 1) w8
    have up : ∀ r', rowO H H.cd lf H.pe (2 ^ H.wo - 1) r' → 16777216 * sumR (skG H) r' (2 ^ H.wo - 1) H.wo + sumR cdG r' (2 ^ H.wo - 1) H.wo ≤ f (2 ^ H.wo - 1) := fun r' hr' => by
      have := c _ ((key _).mpr ⟨r', hr', fxr r', rfl⟩)
      rw [show dG (mkC H H.cd (rkG H) lf) = rkG H from rfl, sumR_lin] at this
      exact this
    refine Or.inr ⟨_, _, r, r3, by omega, c1.1, c1.2, Or.inl ⟨by omega, ⟨r, r1, rfl⟩, fun r' hr' => ?_⟩, r1, rfl, rfl, fun r' hr' e => ?_⟩
    · have := up r' hr'
      have := cod_in (r := r') (t := 2 ^ H.wo - 1) w8
      omega
    · have := up r' hr'
      omega
/-! THE REFERENCE'S BEST ROW: lays0 finds the first row of the greatest sum -/
theorem own_eq {r r' : Nat → Nat} {p t : Nat} : ∀ {n : Nat}, (∀ w, w < n → r' w = r w) → ownS r' p t n = ownS r p t n
  | 0, _ => rfl
  | n + 1, h => by
    show ownS r' p t n ||| _ = ownS r p t n ||| _
    rw [own_eq (fun w hw => h w (by omega)), h n (Nat.lt_succ_self _)]
theorem sumR_eq {g : Nat → Nat → Int} {r r' : Nat → Nat} {t : Nat} : ∀ {n : Nat}, (∀ w, w < n → r' w = r w) → sumR g r' t n = sumR g r t n
  | 0, _ => rfl
  | n + 1, h => by
    show sumR g r' t n + _ = sumR g r t n + _
    rw [sumR_eq (fun w hw => h w (by omega)), h n (Nat.lt_succ_self _)]
theorem rowO_eq {H : HS} {cd : Nat → Nat} {lf N t : Nat} {r r' : Nat → Nat} (h : ∀ w, w < H.wo → r' w = r w) (h1 : rowO H cd lf N t r) : rowO H cd lf N t r' := ⟨fun w hw hb => by rw [h w hw]; exact h1.1 w hw hb, fun p hp => by rw [own_eq h]; exact h1.2 p hp⟩
theorem ful_bit {W w : Nat} (hw : w < W) : (2 ^ W - 1).testBit w = true := by
  rw [Nat.testBit_two_pow_sub_one]
  exact decide_eq_true hw
/-- the first row of the greatest sum -/
def brw (H : HS) (cd : Nat → Nat) (N lf : Nat) (g : Nat → Nat → Int) (la : Nat → Nat) : Prop := rowO H cd lf N (2 ^ H.wo - 1) la ∧ (∀ r, rowO H cd lf N (2 ^ H.wo - 1) r → sumR g r (2 ^ H.wo - 1) H.wo ≤ sumR g la (2 ^ H.wo - 1) H.wo) ∧ ∀ w, w < H.wo → ∀ r, rowO H cd lf N (2 ^ H.wo - 1) r → sumR g r (2 ^ H.wo - 1) H.wo = sumR g la (2 ^ H.wo - 1) H.wo → (∀ x, x < w → r x = la x) → la w ≤ r w
def grd (H : HS) (cd : Nat → Nat) (N lf : Nat) (g : Nat → Nat → Int) (A : Int) (la : Nat → Nat) (w : Nat) : Prop := ∀ x, x < w → ∀ r, rowO H cd lf N (2 ^ H.wo - 1) r → sumR g r (2 ^ H.wo - 1) H.wo = A → (∀ z, z < x → r z = la z) → la x ≤ r x
def Q7f (H : HS) (cd : Nat → Nat) (N : Nat) (D : rD) (M : aM) : Int32 → aM → Prop := fun y M' => (∀ a k, a ≠ 76 → a ≠ 77 → a ≠ 78 → a ≠ 80 → (a = 58 → k ≠ 46) → M'.1 a k = M.1 a k) ∧ ((y = 0 ∧ ∀ r, ¬ rowO H cd (dLf D) N (2 ^ H.wo - 1) r) ∨ (y = 1 ∧ ∃ la, brw H cd N (dLf D) (dG D) la ∧ (M'.1 58 46).toInt = sumR (dG D) la (2 ^ H.wo - 1) H.wo ∧ ∀ w, w < H.wo → M'.1 80 w = nI (la w)))
theorem c207f {l : aL} (hl0 : l.1.stackTraces = false) {M : aM} {N : Nat} {D : rD} {fx : Nat → Int} {H : HS} {cd : Nat → Nat} (hm : mdl M N D fx) (hb : mdB N D) (hWH : dW D = H.wo) (hL : hLs H cd N D) : AC l (pI pg 208) (fcI M (Q7f H cd N D M)) 0 0 [.ref 58, .int (nI (dLf D))] SHF M := by
  refine fw_of hl0 ⟨by decide +kernel, by decide +kernel, by decide +kernel⟩ rfl ?_
  have hW := hb.1
  have hN := hb.2.1
  have hLf := hb.2.2.2.2.2
  have h256 := p2_8 hW
  have hpos := Nat.two_pow_pos (dW D)
  have hm1 : (Int32.ofInt (-1)).toInt = -1 := by decide
  have key := fun (fx : Nat → Int) (v : Int) => Rch_row (H := H) (cd := cd) (lf := dLf D) (N := N) (D := D) (fx := fx) hWH rfl hL N (Nat.le_refl _) (2 ^ H.wo - 1) (by rw [← hWH]; omega) v
  -- the works' loop
  have l26 : ∀ (d w : Nat) (a : Int32) (la : Nat → Nat) (M1 : aM), w + d = dW D → M1.2.2 = M.2.2 → (∀ a k, a ≠ 76 → a ≠ 77 → a ≠ 78 → a ≠ 80 → (a = 58 → k ≠ 46) → M1.1 a k = M.1 a k) → (∀ x, x < w → rwI M1 76 x = (la x : Int) ∧ M1.1 80 x = nI (la x)) → (∀ x, w ≤ x → x < 8 → rwI M1 76 x = -1) → Best (Rch D (rwI M1 76) N) (dW D) (rwI M1 77) → rwI M1 77 (2 ^ dW D - 1) = a.toInt → a.toInt ≠ -1 → (∀ r, rowO H cd (dLf D) N (2 ^ H.wo - 1) r → sumR (dG D) r (2 ^ H.wo - 1) H.wo ≤ a.toInt) → grd H cd N (dLf D) (dG D) a.toInt la w → AW l (pI pg 208) (fcI M (Q7f H cd N D M)) 0 0 26 [(3, .int (nI w)), (2, .int a), (0, .ref 58), (1, .int (nI (dLf D)))] [] SHF M1 := by
    intro d
    induction d with
    | zero =>
      intro w a la M1 hw h1 h2 h3 h5 h6 h7 h8 h9 hg
      have hmd := hm.re h1 h2
      have ew : w = H.wo := by omega
      have no : ¬ ¬ (M1.1 58 2 ≤ nI w) := by
        rw [hmd.2.1]
        exact fun h => h (nI_le (by omega) (by omega))
      refine s207_26 hmd.1 (fun _ => ?_) (fun h => absurd h no)
      have hR : Rch D (rwI M1 76) N (2 ^ H.wo - 1) a.toInt := by
        rcases h6 (2 ^ dW D - 1) (by omega) with ⟨b, -⟩ | ⟨-, b, -⟩
        · exact absurd (h7.symm.trans b) h8
        · rw [h7, hWH] at b
          exact b
      obtain ⟨r, r1, r2, r3⟩ := (key _ _).mp hR
      have rl : ∀ x, x < H.wo → la x = r x := fun x hx => by
        have q := (h3 x (by omega)).1
        rcases r2 x hx with y | ⟨-, y⟩ | ⟨y, -⟩
        · omega
        · omega
        · rw [ful_bit hx] at y
          cases y
      have sl : sumR (dG D) la (2 ^ H.wo - 1) H.wo = a.toInt := by rw [sumR_eq rl, ← r3]
      refine ⟨rfl, h1, _, rfl, fun b k g1 g2 g3 g4 g5 => ?_, Or.inr ⟨rfl, la, ⟨rowO_eq rl r1, fun r' hr' => by rw [sl]; exact h9 r' hr', fun x hx r' hr' hs hz => hg x (by omega) r' hr' (by rw [hs, sl]) hz⟩, ?_, fun x hx => ?_⟩⟩
      · rw [set_1]
        by_cases e : b = 58
        · rw [if_pos e, if_neg (g5 e)]
          exact h2 b k g1 g2 g3 g4 g5
        · rw [if_neg e]
          exact h2 b k g1 g2 g3 g4 g5
      · rw [set_1, if_pos rfl, if_pos rfl, sl]
      · rw [set_1, if_neg (by decide)]
        exact (h3 x (by omega)).2
    | succ d ih =>
      intro w a la M1 hw h1 h2 h3 h5 h6 h7 h8 h9 hg
      have hmd := hm.re h1 h2
      refine s207_26 hmd.1 (fun h => ?_) (fun _ => ?_)
      · rw [hmd.2.1] at h
        exact ge_no (by omega) (by omega) h
      -- the doer that will be found
      have hbit : (2 ^ dW D - 1).testBit w = true := by
        rw [Nat.testBit_two_pow_sub_one]
        exact decide_eq_true (by omega)
      obtain ⟨p0, hp0, hpl, hpf⟩ := found_in (w := w) (t := 2 ^ dW D - 1) (h5 w (Nat.le_refl _) (by omega)) (by omega) hbit h6 (by rw [h7]; exact h8)
      have hcw : (nI w).toNatClampNeg = w := nI_clamp (by omega)
      -- it has been found
      have out : ∀ (p : Nat) (M5 : aM), p < 6 → M5.2.2 = M.2.2 → (∀ a k, a ≠ 76 → a ≠ 77 → a ≠ 78 → a ≠ 80 → (a = 58 → k ≠ 46) → M5.1 a k = M.1 a k) → (∀ x, x < w → M5.1 80 x = M1.1 80 x) → (∀ x, rwI M5 76 x = fxU (rwI M1 76) w (p : Int) x) → Best (Rch D (rwI M5 76) N) (dW D) (rwI M5 77) → rwI M5 77 (2 ^ dW D - 1) = a.toInt → (∀ q, q < p → ∀ r, rowO H cd (dLf D) N (2 ^ H.wo - 1) r → sumR (dG D) r (2 ^ H.wo - 1) H.wo = a.toInt → (∀ z, z < w → r z = la z) → r w ≠ q) → AW l (pI pg 208) (fcI M (Q7f H cd N D M)) 0 0 26 [(3, .int (nI w + Int32.ofInt 1)), (2, .int a), (0, .ref 58), (1, .int (nI (dLf D)))] [] SHF (aset M5 80 (nI w).toNatClampNeg (.int (M5.1 76 (nI w).toNatClampNeg))) := by
        intro p M5 hp g1 g2 g3 g4 g5 g6 g7
        rw [hcw, show nI w + Int32.ofInt 1 = nI (w + 1) from nI_1 w]
        have f76 : ∀ x, rwI (aset M5 80 w (.int (M5.1 76 w))) 76 x = rwI M5 76 x := fun x => rfl
        have gw : rwI M5 76 w = (p : Int) := by rw [g4, fxU, if_pos rfl]
        have gp : M5.1 76 w = nI p := Int32.toInt_inj.mp (by rw [nI_toInt (by omega)]; exact gw)
        refine ih (w + 1) a (fun x => if x = w then p else la x) _ (by omega) g1 (fun b k k1 k2 k3 k4 k5 => ?_) (fun x hx => ?_) (fun x hx1 hx2 => ?_) ?_ ?_ h8 h9 (fun x hx r hr hs hz => ?_)
        · rw [set_1, if_neg k4]
          exact g2 b k k1 k2 k3 k4 k5
        · show rwI (aset M5 80 w (.int (M5.1 76 w))) 76 x = ((if x = w then p else la x : Nat) : Int) ∧ (aset M5 80 w (.int (M5.1 76 w))).1 80 x = nI (if x = w then p else la x)
          rw [f76, g4, fxU, set_1, if_pos rfl]
          by_cases e : x = w
          · rw [if_pos e, if_pos e, if_pos e, gp]
            exact ⟨rfl, rfl⟩
          · rw [if_neg e, if_neg e, if_neg e]
            obtain ⟨y1, y2⟩ := h3 x (by omega)
            exact ⟨y1, (g3 x (by omega)).trans y2⟩
        · rw [f76, g4, fxU, if_neg (by omega)]
          exact h5 x (by omega) hx2
        · exact g5
        · exact g6
        · show (if x = w then p else la x) ≤ r x
          have hz' : ∀ z, z < x → z < w → r z = la z := fun z hz1 hz2 => by
            have := hz z hz1
            have this : r z = (if z = w then p else la z) := this
            rw [if_neg (by omega)] at this
            exact this
          by_cases e : x = w
          · rw [if_pos e]
            subst e
            refine Nat.le_of_not_lt fun hlt => ?_
            exact g7 (r x) hlt r hr hs (fun z hz => hz' z hz hz) rfl
          · rw [if_neg e]
            exact hg x (by omega) r hr hs (fun z hz => hz' z hz (by omega))
      -- the search
      have l40 : ∀ (d2 p : Nat) (M2 : aM), p + d2 = p0 → M2.2.2 = M.2.2 → (∀ a k, a ≠ 76 → a ≠ 77 → a ≠ 78 → a ≠ 80 → (a = 58 → k ≠ 46) → M2.1 a k = M.1 a k) → (∀ x, x < w → M2.1 80 x = M1.1 80 x) → (∀ x, x ≠ w → rwI M2 76 x = rwI M1 76 x) → (∀ q, q < p → ∀ r, rowO H cd (dLf D) N (2 ^ H.wo - 1) r → sumR (dG D) r (2 ^ H.wo - 1) H.wo = a.toInt → (∀ z, z < w → r z = la z) → r w ≠ q) → AW l (pI pg 208) (fcI M (Q7f H cd N D M)) 0 0 40 [(5, .int (Int32.ofInt 0)), (4, .int (nI p)), (3, .int (nI w)), (2, .int a), (0, .ref 58), (1, .int (nI (dLf D)))] [] SHF M2 := by
        intro d2
        induction d2 with
        | zero =>
          intro p M2 hp g1 g2 g3 g4 gq
          have e : p = p0 := by omega
          subst e
          have hz : ¬ ¬ (Int32.ofInt 0 = 0) := fun h => h (by decide)
          have hma := (hm.re g1 g2).re (M' := aset M2 76 (nI w).toNatClampNeg (.int (nI p))) rfl (fun b k k1 _ _ _ _ => by rw [set_1, if_neg k1])
          have e76 : rwI (aset M2 76 (nI w).toNatClampNeg (.int (nI p))) 76 = fxU (rwI M1 76) w (p : Int) := by
            funext x
            unfold rwI
            rw [hcw, set_1, if_pos rfl, fxU]
            by_cases e : x = w
            · rw [if_pos e, if_pos e, nI_toInt (by omega)]
            · rw [if_neg e, if_neg e]
              exact g4 x e
          have use : ∀ M5 : aM, M5.2.2 = (aset M2 76 (nI w).toNatClampNeg (.int (nI p))).2.2 → Q210 N D (rwI (aset M2 76 (nI w).toNatClampNeg (.int (nI p))) 76) (aset M2 76 (nI w).toNatClampNeg (.int (nI p))) M5 → (Int32.ofInt 1 <<< (M5.1 58 2 &&& 31)) - Int32.ofInt 1 = nI (2 ^ dW D - 1) ∧ rwI M5 77 (2 ^ dW D - 1) = a.toInt ∧ (∀ x, rwI M5 76 x = fxU (rwI M1 76) w (p : Int) x) ∧ Best (Rch D (rwI M5 76) N) (dW D) (rwI M5 77) := by
            intro M5 e5 q5
            have hm5 := hma.keep e5 q5.2.2
            have s5 := hm5.self
            rw [e76] at s5
            have b5 := q5.1
            rw [e76] at b5
            refine ⟨by rw [hm5.2.1, fullW hW], (hpf _ b5).trans h7, fun x => by rw [← s5], ?_⟩
            rw [← s5]
            exact b5
          refine s207_40 (Q5 := Q210 N D (rwI (aset M2 76 (nI w).toNatClampNeg (.int (nI p))) 76) (aset M2 76 (nI w).toNatClampNeg (.int (nI p)))) (hm.re g1 g2).1 (fun h => absurd h hz) (fun h => absurd h hz) (fun _ => vp_in_nI (by omega) (by decide)) (c6 := fun _ => c210 hl0 hma hb) (fun _ M5 e5 q5 h7' => ?_) (fun _ M5 e5 q5 _ => ?_) (fun _ M5 e5 q5 _ h10 => ?_) (fun _ M5 e5 q5 _ _ => ?_)
          · exact absurd ((bitT (by omega) (by omega)).mpr hpl) h7'
          · rw [(use M5 e5 q5).1]
            exact vp_in_nI (by omega) (by decide)
          · obtain ⟨u1, u2, -⟩ := use M5 e5 q5
            rw [u1, nI_clamp (by omega)] at h10
            exact absurd (Int32.toInt_inj.mp u2) h10
          · obtain ⟨u1, u2, u3, u4⟩ := use M5 e5 q5
            have g2' : ∀ a k, a ≠ 76 → a ≠ 77 → a ≠ 78 → a ≠ 80 → (a = 58 → k ≠ 46) → M5.1 a k = M.1 a k := fun b k k1 k2 k3 k4 k5 => by
              rw [q5.2.2 b k k2 k3, set_1, if_neg k1]
              exact g2 b k k1 k2 k3 k4 k5
            have g3' : ∀ x, x < w → M5.1 80 x = M1.1 80 x := fun x hx => by
              rw [q5.2.2 80 x (by decide) (by decide), set_1, if_neg (by decide)]
              exact g3 x hx
            rw [show nI p + Int32.ofInt 1 = nI (p + 1) from nI_1 p]
            have nz : ¬ (Int32.ofInt 1 = 0) := by decide
            refine s207_40 (Q5 := fun _ => True) (hm.re (e5.trans g1) g2').1 (fun _ => vp_in_nI (by omega) (by decide)) (fun _ => out p M5 (by omega) (e5.trans g1) g2' g3' u3 u4 u2 gq) (fun h => absurd h nz) (c6 := fun h => absurd h nz) (fun h => absurd h nz) (fun h => absurd h nz) (fun h => absurd h nz) (fun h => absurd h nz)
        | succ d2 ih2 =>
          intro p M2 hp g1 g2 g3 g4 gq
          have hz : ¬ ¬ (Int32.ofInt 0 = 0) := fun h => h (by decide)
          have hma := (hm.re g1 g2).re (M' := aset M2 76 (nI w).toNatClampNeg (.int (nI p))) rfl (fun b k k1 _ _ _ _ => by rw [set_1, if_neg k1])
          have e76 : rwI (aset M2 76 (nI w).toNatClampNeg (.int (nI p))) 76 = fxU (rwI M1 76) w (p : Int) := by
            funext x
            unfold rwI
            rw [hcw, set_1, if_pos rfl, fxU]
            by_cases e : x = w
            · rw [if_pos e, if_pos e, nI_toInt (by omega)]
            · rw [if_neg e, if_neg e]
              exact g4 x e
          have use : ∀ M5 : aM, M5.2.2 = (aset M2 76 (nI w).toNatClampNeg (.int (nI p))).2.2 → Q210 N D (rwI (aset M2 76 (nI w).toNatClampNeg (.int (nI p))) 76) (aset M2 76 (nI w).toNatClampNeg (.int (nI p))) M5 → (Int32.ofInt 1 <<< (M5.1 58 2 &&& 31)) - Int32.ofInt 1 = nI (2 ^ dW D - 1) ∧ (∀ x, rwI M5 76 x = fxU (rwI M1 76) w (p : Int) x) ∧ Best (Rch D (rwI M5 76) N) (dW D) (rwI M5 77) ∧ (∀ a k, a ≠ 76 → a ≠ 77 → a ≠ 78 → a ≠ 80 → (a = 58 → k ≠ 46) → M5.1 a k = M.1 a k) ∧ ∀ x, x < w → M5.1 80 x = M1.1 80 x := by
            intro M5 e5 q5
            have hm5 := hma.keep e5 q5.2.2
            have s5 := hm5.self
            rw [e76] at s5
            have b5 := q5.1
            rw [e76] at b5
            refine ⟨by rw [hm5.2.1, fullW hW], fun x => by rw [← s5], ?_, fun b k k1 k2 k3 k4 k5 => ?_, fun k hk => ?_⟩
            · rw [← s5]
              exact b5
            · rw [q5.2.2 b k k2 k3, set_1, if_neg k1]
              exact g2 b k k1 k2 k3 k4 k5
            · rw [q5.2.2 80 k (by decide) (by decide), set_1, if_neg (by decide)]
              exact g3 k hk
          have on : ∀ M5 : aM, M5.2.2 = (aset M2 76 (nI w).toNatClampNeg (.int (nI p))).2.2 → Q210 N D (rwI (aset M2 76 (nI w).toNatClampNeg (.int (nI p))) 76) (aset M2 76 (nI w).toNatClampNeg (.int (nI p))) M5 → (∀ r, rowO H cd (dLf D) N (2 ^ H.wo - 1) r → sumR (dG D) r (2 ^ H.wo - 1) H.wo = a.toInt → (∀ z, z < w → r z = la z) → r w ≠ p) → AW l (pI pg 208) (fcI M (Q7f H cd N D M)) 0 0 40 [(5, .int (Int32.ofInt 0)), (4, .int (nI p + Int32.ofInt 1)), (3, .int (nI w)), (2, .int a), (0, .ref 58), (1, .int (nI (dLf D)))] [] SHF M5 := by
            intro M5 e5 q5 hq
            obtain ⟨u1, u3, u4, u5, u6⟩ := use M5 e5 q5
            rw [show nI p + Int32.ofInt 1 = nI (p + 1) from nI_1 p]
            refine ih2 (p + 1) M5 (by omega) (e5.trans g1) u5 u6 (fun x hx => by rw [u3, fxU, if_neg hx]) (fun q hq2 => ?_)
            by_cases e : q = p
            · rw [e]
              exact hq
            · exact gq q (by omega)
          refine s207_40 (Q5 := Q210 N D (rwI (aset M2 76 (nI w).toNatClampNeg (.int (nI p))) 76) (aset M2 76 (nI w).toNatClampNeg (.int (nI p)))) (hm.re g1 g2).1 (fun h => absurd h hz) (fun h => absurd h hz) (fun _ => vp_in_nI (by omega) (by decide)) (c6 := fun _ => c210 hl0 hma hb) (fun _ M5 e5 q5 h7' => on M5 e5 q5 (fun r hr _ _ er => ?_)) (fun _ M5 e5 q5 _ => ?_) (fun _ M5 e5 q5 _ h10 => on M5 e5 q5 (fun r hr hs hz2 er => ?_)) (fun _ M5 e5 q5 _ h10 => ?_)
          · have := (hr.1 w (by omega) (ful_bit (by omega))).2.1
            rw [er] at this
            exact absurd ((bitT (by omega) (by omega)).mpr this) h7'
          · rw [(use M5 e5 q5).1]
            exact vp_in_nI (by omega) (by decide)
          · obtain ⟨u1, u3, u4, u5, u6⟩ := use M5 e5 q5
            rw [u1, nI_clamp (by omega)] at h10
            have hf : ∀ x, x < H.wo → rwI M5 76 x = -1 ∨ rwI M5 76 x = (r x : Int) := fun x hx => by
              rw [u3, fxU]
              by_cases e : x = w
              · rw [if_pos e, e, er]
                exact Or.inr rfl
              · rw [if_neg e]
                by_cases e2 : x < w
                · rw [(h3 x e2).1, hz2 x e2]
                  exact Or.inr rfl
                · exact Or.inl (h5 x (by omega) (by omega))
            have rc : Rch D (rwI M5 76) N (2 ^ H.wo - 1) a.toInt := (key _ _).mpr ⟨r, hr, fun x hx => (hf x hx).imp id (fun y => Or.inl ⟨ful_bit hx, y⟩), hs.symm⟩
            rcases u4 (2 ^ dW D - 1) (by omega) with ⟨-, b⟩ | ⟨-, b, c⟩
            · rw [hWH] at b
              exact b _ rc
            · rw [hWH] at b c h10
              have c1 := c _ rc
              obtain ⟨r', r1, -, r3⟩ := (key _ _).mp b
              have c2 := h9 r' r1
              rw [← r3] at c2
              exact h10 (Int32.toInt_inj.mp (show rwI M5 77 (2 ^ H.wo - 1) = a.toInt by omega))
          · obtain ⟨u1, u3, u4, u5, u6⟩ := use M5 e5 q5
            rw [u1, nI_clamp (by omega)] at h10
            have u2 : rwI M5 77 (2 ^ dW D - 1) = a.toInt := by
              show (M5.1 77 (2 ^ dW D - 1)).toInt = _
              rw [h10]
            rw [show nI p + Int32.ofInt 1 = nI (p + 1) from nI_1 p]
            have nz : ¬ (Int32.ofInt 1 = 0) := by decide
            refine s207_40 (Q5 := fun _ => True) (hm.re (e5.trans g1) u5).1 (fun _ => vp_in_nI (by omega) (by decide)) (fun _ => out p M5 (by omega) (e5.trans g1) u5 u6 u3 u4 u2 gq) (fun h => absurd h nz) (c6 := fun h => absurd h nz) (fun h => absurd h nz) (fun h => absurd h nz) (fun h => absurd h nz) (fun h => absurd h nz)
      exact l40 p0 0 M1 (Nat.zero_add _) h1 h2 (fun _ _ => rfl) (fun _ _ => rfl) (fun q hq => absurd hq (Nat.not_lt_zero _))
  refine s207_0 hm.1 (Q208 N D M) (c208 hl0 hm hb) (fun y M1 e1 q1 h3 => ?_) (fun y M1 e1 q1 h3 => ?_) (fun y M1 e1 q1 h3 => ?_)
  all_goals
    obtain ⟨q1, q2, q3, q4, q5⟩ := q1
    have fr : ∀ a k, a ≠ 76 → a ≠ 77 → a ≠ 78 → a ≠ 80 → (a = 58 → k ≠ 46) → M1.1 a k = M.1 a k := fun b k k1 k2 k3 _ _ => q3 b k k1 k2 k3
    have hmd := hm.re e1 fr
    have hfl : (Int32.ofInt 1 <<< (M1.1 58 2 &&& 31)) - Int32.ofInt 1 = nI (2 ^ dW D - 1) := by rw [hmd.2.1, fullW hW]
    have f76 : ∀ x, x < 8 → rwI M1 76 x = -1 := fun x hx => by
      show (M1.1 76 x).toInt = -1
      rw [q1 x hx]
      exact hm1
    have free : ∀ r, rowO H cd (dLf D) N (2 ^ H.wo - 1) r → Rch D (rwI M1 76) N (2 ^ H.wo - 1) (sumR (dG D) r (2 ^ H.wo - 1) H.wo) := fun r hr => (key _ _).mpr ⟨r, hr, fun x hx => Or.inl (f76 x (by omega)), rfl⟩
  · rw [hfl]
    exact vp_in_nI (by omega) (by decide)
  · rw [hfl, nI_clamp (by omega)]
    have nm : rwI M1 77 (2 ^ dW D - 1) ≠ -1 := by
      rcases q5 with ⟨-, h⟩ | ⟨h, -⟩
      · exact h
      · exact absurd h h3
    refine l26 (dW D) 0 _ (fun _ => 0) M1 (Nat.zero_add _) e1 fr (fun x hx => absurd hx (Nat.not_lt_zero _)) (fun x _ hx => f76 x hx) q4 rfl nm (fun r hr => ?_) (fun x hx => absurd hx (Nat.not_lt_zero _))
    rcases q4 (2 ^ dW D - 1) (by omega) with ⟨b, -⟩ | ⟨-, -, c⟩
    · exact absurd b nm
    · refine c _ ?_
      rw [hWH]
      exact free r hr
  · refine ⟨rfl, e1, _, rfl, fr, Or.inl ⟨rfl, fun r hr => ?_⟩⟩
    have no : rwI M1 77 (2 ^ dW D - 1) = -1 := by
      rcases q5 with ⟨h, -⟩ | ⟨-, h⟩
      · exact absurd (h.symm.trans h3) (by decide)
      · exact h
    rcases q4 (2 ^ dW D - 1) (by omega) with ⟨-, b⟩ | ⟨b, -, -⟩
    · refine b (sumR (dG D) r (2 ^ H.wo - 1) H.wo) ?_
      rw [hWH]
      exact free r hr
    · omega
