/-! ROWS: who does which work of a set; what a search reaches is what some row gives -/
def ownS (r : Nat → Nat) (p t : Nat) : Nat → Nat
  | 0 => 0
  | n + 1 => ownS r p t n ||| (if t.testBit n = true ∧ r n = p then 2 ^ n else 0)
theorem own_bit {r : Nat → Nat} {p t w : Nat} : ∀ {n : Nat}, (ownS r p t n).testBit w = true ↔ w < n ∧ t.testBit w = true ∧ r w = p
  | 0 => ⟨fun h => (by rw [ownS, Nat.zero_testBit] at h; cases h), fun h => absurd h.1 (Nat.not_lt_zero _)⟩
  | n + 1 => by
    show (ownS r p t n ||| _).testBit w = true ↔ _
    rw [Nat.testBit_or, Bool.or_eq_true, own_bit (n := n)]
    constructor
    · rintro (⟨h1, h2⟩ | h)
      · exact ⟨by omega, h2⟩
      · by_cases e : t.testBit n = true ∧ r n = p
        · rw [if_pos e, Nat.testBit_two_pow, decide_eq_true_eq] at h
          subst h
          exact ⟨Nat.lt_succ_self _, e⟩
        · rw [if_neg e, Nat.zero_testBit] at h
          cases h
    · rintro ⟨h1, h2⟩
      by_cases e : w = n
      · subst e
        exact Or.inr (by rw [if_pos h2, Nat.testBit_two_pow_self])
      · exact Or.inl ⟨by omega, h2⟩
theorem own_lt {r : Nat → Nat} {p t n : Nat} : ownS r p t n < 2 ^ n := Nat.lt_pow_two_of_testBit _ fun i hi => by
  cases e : (ownS r p t n).testBit i with
  | false => rfl
  | true =>
    have := (own_bit.mp e).1
    omega
theorem eqb {a b n : Nat} (ha : a < 2 ^ n) (hb : b < 2 ^ n) (h : ∀ w, w < n → (a.testBit w = true ↔ b.testBit w = true)) : a = b := by
  refine Nat.eq_of_testBit_eq fun i => ?_
  by_cases e : i < n
  · have := h i e
    cases e1 : a.testBit i <;> cases e2 : b.testBit i <;> rw [e1, e2] at this <;> first
      | rfl
      | exact absurd (this.mpr rfl) (by decide)
      | exact absurd (this.mp rfl) (by decide)
  · rw [tb_no ha (by omega), tb_no hb (by omega)]
def sumR (g : Nat → Nat → Int) (r : Nat → Nat) (t : Nat) : Nat → Int
  | 0 => 0
  | n + 1 => sumR g r t n + (if t.testBit n = true then g (r n) n else 0)
/-- a row of those who are left, below N, for the works of t -/
def rowO (H : HS) (cd : Nat → Nat) (lf N t : Nat) (r : Nat → Nat) : Prop := (∀ w, w < H.wo → t.testBit w = true → r w < N ∧ lf.testBit (r w) = true ∧ (cd (r w)).testBit w = true) ∧ ∀ p, p < N → fit H (ownS r p t H.wo) (H.ho p)
/-- .. which keeps to what is fixed -/
def fxO (fx : Nat → Int) (lf N t W : Nat) (r : Nat → Nat) : Prop := ∀ w, w < W → fx w = -1 ∨ (t.testBit w = true ∧ fx w = (r w : Int)) ∨ (t.testBit w = false ∧ ∀ p, p < N → lf.testBit p = true → fx w ≠ (p : Int))
theorem sum_split {g : Nat → Nat → Int} {r r' : Nat → Nat} {p a s t : Nat} : ∀ n, (∀ w, w < n → (a.testBit w = true → t.testBit w = true ∧ s.testBit w = false ∧ r w = p) ∧ (a.testBit w = false → t.testBit w = s.testBit w ∧ (s.testBit w = true → r w = r' w))) → sumR g r t n = sumR g r' s n + gvS (g p) n a
  | 0, _ => rfl
  | n + 1, h => by
    have ih := sum_split (g := g) n (fun w hw => h w (by omega))
    obtain ⟨h1, h2⟩ := h n (Nat.lt_succ_self _)
    show sumR g r t n + (if t.testBit n = true then g (r n) n else 0) = sumR g r' s n + (if s.testBit n = true then g (r' n) n else 0) + (gvS (g p) n a + (if a.testBit n = true then g p n else 0))
    rw [ih]
    cases e : a.testBit n with
    | true =>
      obtain ⟨u1, u2, u3⟩ := h1 e
      rw [u1, u2, u3, if_pos rfl, if_neg (by decide)]
      omega
    | false =>
      obtain ⟨u1, u2⟩ := h2 e
      rw [u1, if_neg (show ¬ false = true by decide)]
      cases e2 : s.testBit n with
      | true =>
        rw [u2 e2, if_pos rfl]
        omega
      | false =>
        rw [if_neg (by decide), if_neg (by decide)]
        omega
section ROW
variable {H : HS} {cd : Nat → Nat} {lf : Nat}
theorem Rch_row {D : rD} {fx : Nat → Int} {N : Nat} (hW : dW D = H.wo) (hl : dLf D = lf) (hL : hLs H cd N D) : ∀ p, p ≤ N → ∀ t, t < 2 ^ H.wo → ∀ v, Rch D fx p t v ↔ ∃ r, rowO H cd lf p t r ∧ fxO fx lf p t H.wo r ∧ v = sumR (dG D) r t H.wo := by
  intro p
  induction p with
  | zero =>
    intro _ t ht v
    constructor
    · rintro ⟨rfl, rfl⟩
      refine ⟨fun _ => 0, ⟨fun w _ h => ?_, fun p hp => absurd hp (Nat.not_lt_zero _)⟩, fun w _ => Or.inr (Or.inr ⟨Nat.zero_testBit _, fun p hp => absurd hp (Nat.not_lt_zero _)⟩), ?_⟩
      · rw [Nat.zero_testBit] at h
        cases h
      · have : ∀ n, sumR (dG D) (fun _ => 0) 0 n = 0 := by
          intro n
          induction n with
          | zero => rfl
          | succ n ih =>
            show sumR (dG D) (fun _ => 0) 0 n + _ = 0
            rw [ih, Nat.zero_testBit]
            rfl
        exact (this _).symm
    · rintro ⟨r, ⟨h1, -⟩, -, h3⟩
      have t0 : t = 0 := eqb ht (Nat.two_pow_pos _) (fun w hw => ⟨fun h => absurd (h1 w hw h).1 (Nat.not_lt_zero _), fun h => (by rw [Nat.zero_testBit] at h; cases h)⟩)
      subst t0
      refine ⟨rfl, ?_⟩
      have : ∀ n, sumR (dG D) r 0 n = 0 := by
        intro n
        induction n with
        | zero => rfl
        | succ n ih =>
          show sumR (dG D) r 0 n + _ = 0
          rw [ih, Nat.zero_testBit]
          rfl
      rw [h3, this]
  | succ p ih =>
    intro hp t ht v
    have ih := ih (by omega)
    constructor
    · rintro (⟨h1, s, u, k, hk, hs, ho, h4, h5, h6, h7⟩ | ⟨h1, h2⟩)
      · rw [hl] at h1
        rw [hW] at hs
        obtain ⟨g1, g2, g3⟩ := (hL p (by omega) _).mp ⟨k, hk, rfl⟩
        generalize ea : dL D p k = a at *
        obtain ⟨r', ⟨f1, f2⟩, f3, f4⟩ := (ih s hs u).mp h6
        have bo : ∀ w, t.testBit w = (s.testBit w || a.testBit w) := fun w => bit_or h5 w
        have bd : ∀ w, a.testBit w = true → s.testBit w = false := fun w hw => by
          have := bit_and h4 w
          rw [hw, Bool.and_true] at this
          exact this
        have rT : ∀ w, a.testBit w = true → (if a.testBit w = true then p else r' w) = p := fun w h => if_pos h
        have rF : ∀ w, a.testBit w = false → (if a.testBit w = true then p else r' w) = r' w := fun w h => if_neg (by rw [h]; decide)
        refine ⟨fun w => if a.testBit w = true then p else r' w, ⟨fun w hw h => ?_, fun q hq => ?_⟩, fun w hw => ?_, ?_⟩
        · show (if a.testBit w = true then p else r' w) < p + 1 ∧ lf.testBit (if a.testBit w = true then p else r' w) = true ∧ (cd (if a.testBit w = true then p else r' w)).testBit w = true
          cases e : a.testBit w with
          | true =>
            rw [if_pos rfl]
            exact ⟨Nat.lt_succ_self _, h1, g2 w e⟩
          | false =>
            rw [bo w, e, Bool.or_false] at h
            rw [if_neg (by decide)]
            obtain ⟨y1, y2⟩ := f1 w hw h
            exact ⟨by omega, y2⟩
        · by_cases e : q = p
          · subst e
            have : ownS (fun w => if a.testBit w = true then q else r' w) q t H.wo = a := eqb own_lt g1 (fun w hw => by
              rw [own_bit]
              constructor
              · rintro ⟨-, y1, y2⟩
                cases e : a.testBit w with
                | true => rfl
                | false =>
                  rw [bo w, e, Bool.or_false] at y1
                  have y2 : (if a.testBit w = true then q else r' w) = q := y2
                  rw [rF w e] at y2
                  have := (f1 w hw y1).1
                  omega
              · intro y
                exact ⟨hw, by rw [bo w, y, Bool.or_true], rT w y⟩)
            rw [this]
            exact g3
          · have : ownS (fun w => if a.testBit w = true then p else r' w) q t H.wo = ownS r' q s H.wo := eqb own_lt own_lt (fun w hw => by
              rw [own_bit, own_bit]
              refine and_congr Iff.rfl ?_
              show (t.testBit w = true ∧ (if a.testBit w = true then p else r' w) = q) ↔ _
              cases e2 : a.testBit w with
              | true =>
                rw [if_pos rfl, bd w e2]
                exact ⟨fun y => absurd y.2.symm e, fun y => absurd y.1 (by decide)⟩
              | false =>
                rw [if_neg (by decide), bo w, e2, Bool.or_false])
            rw [this]
            exact f2 q (by omega)
        · by_cases y0 : fx w = -1
          · exact Or.inl y0
          · have y1 := (ho w (by rw [hW]; exact hw)).resolve_left y0
            refine Or.inr ?_
            show (t.testBit w = true ∧ fx w = ((if a.testBit w = true then p else r' w : Nat) : Int)) ∨ _
            rcases (f3 w hw).resolve_left y0 with ⟨y2, y3⟩ | ⟨y2, y3⟩
            · have e : a.testBit w = false := by
                cases e : a.testBit w with
                | false => rfl
                | true =>
                  rw [bd w e] at y2
                  cases y2
              rw [rF w e]
              exact Or.inl ⟨by rw [bo w, y2, Bool.true_or], y3⟩
            · cases e : a.testBit w with
              | true =>
                rw [if_pos rfl]
                exact Or.inl ⟨by rw [bo w, e, Bool.or_true], y1.mp e⟩
              | false =>
                refine Or.inr ⟨by rw [bo w, e, y2]; rfl, fun q hq hq2 hq3 => ?_⟩
                by_cases e3 : q = p
                · subst e3
                  have := y1.mpr hq3
                  rw [e] at this
                  cases this
                · exact y3 q (by omega) hq2 hq3
        · rw [h7, hW, f4]
          refine (sum_split (r' := r') H.wo (fun w hw => ⟨fun e => ⟨by rw [bo w, e, Bool.or_true], bd w e, rT w e⟩, fun e => ⟨by rw [bo w, e, Bool.or_false], fun _ => rF w e⟩⟩)).symm
      · rw [hl] at h1
        obtain ⟨r, ⟨f1, f2⟩, f3, f4⟩ := (ih t ht v).mp h2
        refine ⟨r, ⟨fun w hw h => ?_, fun q hq => ?_⟩, fun w hw => ?_, f4⟩
        · obtain ⟨y1, y2⟩ := f1 w hw h
          exact ⟨by omega, y2⟩
        · by_cases e : q = p
          · have : ownS r q t H.wo = 0 := eqb own_lt (Nat.two_pow_pos _) (fun w hw => by
              rw [own_bit, Nat.zero_testBit]
              constructor
              · rintro ⟨-, y1, y2⟩
                have := (f1 w hw y1).1
                omega
              · intro y
                cases y)
            rw [this]
            exact fit_0
          · exact f2 q (by omega)
        · rcases f3 w hw with y | y | ⟨y1, y2⟩
          · exact Or.inl y
          · exact Or.inr (Or.inl y)
          · refine Or.inr (Or.inr ⟨y1, fun q hq hq2 => ?_⟩)
            by_cases e : q = p
            · subst e
              rw [h1] at hq2
              cases hq2
            · exact y2 q (by omega) hq2
    · rintro ⟨r, ⟨f1, f2⟩, f3, f4⟩
      cases h1 : lf.testBit p with
      | false =>
        refine Or.inr ⟨by rw [hl]; exact h1, (ih t ht v).mpr ⟨r, ⟨fun w hw h => ?_, fun q hq => f2 q (by omega)⟩, fun w hw => ?_, f4⟩⟩
        · obtain ⟨y1, y2, y3⟩ := f1 w hw h
          have : r w ≠ p := fun e => by
            rw [e, h1] at y2
            cases y2
          exact ⟨by omega, y2, y3⟩
        · rcases f3 w hw with y | y | ⟨y1, y2⟩
          · exact Or.inl y
          · exact Or.inr (Or.inl y)
          · exact Or.inr (Or.inr ⟨y1, fun q hq hq2 => y2 q (by omega) hq2⟩)
      | true =>
        have ab : ∀ w, w < H.wo → ((ownS r p t H.wo).testBit w = true ↔ t.testBit w = true ∧ r w = p) := fun w hw => own_bit.trans ⟨fun y => y.2, fun y => ⟨hw, y⟩⟩
        have g1 : ownS r p t H.wo < 2 ^ H.wo := own_lt
        have gs : sbs (ownS r p t H.wo) t := fun w hw => (own_bit.mp hw).2.1
        have g2 : sbs (ownS r p t H.wo) (cd p) := fun w hw => by
          obtain ⟨y1, y2, y3⟩ := own_bit.mp hw
          have := (f1 w y1 y2).2.2
          rw [y3] at this
          exact this
        have g3 := f2 p (Nat.lt_succ_self _)
        generalize ownS r p t H.wo = a at *
        obtain ⟨k, hk, ek⟩ := (hL p (by omega) a).mpr ⟨g1, g2, g3⟩
        obtain ⟨d1, d2⟩ := dsj' gs
        have sl : t ^^^ a < 2 ^ H.wo := Nat.xor_lt_two_pow ht g1
        have sb : ∀ w, (t ^^^ a).testBit w = (t.testBit w != a.testBit w) := fun w => Nat.testBit_xor ..
        have st : ∀ w, w < H.wo → ((t ^^^ a).testBit w = true ↔ t.testBit w = true ∧ r w ≠ p) := fun w hw => by
          rw [sb w]
          have y := ab w hw
          cases e1 : t.testBit w <;> cases e2 : a.testBit w <;> rw [e1, e2] at y
          · exact ⟨fun z => (by cases z), fun z => absurd z.1 (by decide)⟩
          · exact absurd (y.mp rfl).1 (by decide)
          · exact ⟨fun _ => ⟨rfl, fun z => absurd (y.mpr ⟨rfl, z⟩) (by decide)⟩, fun _ => rfl⟩
          · exact ⟨fun z => (by cases z), fun z => absurd (y.mp rfl).2 z.2⟩
        have tf : ∀ w, w < H.wo → (t ^^^ a).testBit w = false → t.testBit w = false ∨ r w = p := fun w hw y => by
          cases e1 : t.testBit w with
          | false => exact Or.inl rfl
          | true =>
            refine Or.inr (Classical.byContradiction fun z => ?_)
            rw [(st w hw).mpr ⟨e1, z⟩] at y
            cases y
        refine Or.inl ⟨by rw [hl]; exact h1, t ^^^ a, sumR (dG D) r (t ^^^ a) H.wo, k, hk, by rw [hW]; exact sl, fun w hw => ?_, by rw [ek]; exact d1, by rw [ek]; exact d2, (ih _ sl _).mpr ⟨r, ⟨fun w hw h => ?_, fun q hq => ?_⟩, fun w hw => ?_, rfl⟩, ?_⟩
        · rw [hW] at hw
          rw [ek]
          rcases f3 w hw with y | ⟨y1, y2⟩ | ⟨y1, y2⟩
          · exact Or.inl y
          · refine Or.inr ((ab w hw).trans ?_)
            rw [y2]
            exact ⟨fun z => by rw [z.2], fun z => ⟨y1, by omega⟩⟩
          · refine Or.inr ((ab w hw).trans ⟨fun z => ?_, fun z => absurd z (y2 p (Nat.lt_succ_self _) h1)⟩)
            rw [y1] at z
            exact absurd z.1 (by decide)
        · obtain ⟨y1, y2⟩ := (st w hw).mp h
          obtain ⟨z1, z2⟩ := f1 w hw y1
          exact ⟨by omega, z2⟩
        · have : ownS r q (t ^^^ a) H.wo = ownS r q t H.wo := eqb own_lt own_lt (fun w hw => by
            rw [own_bit, own_bit]
            refine and_congr Iff.rfl ⟨fun z => ⟨((st w hw).mp z.1).1, z.2⟩, fun z => ⟨(st w hw).mpr ⟨z.1, by omega⟩, z.2⟩⟩)
          rw [this]
          exact f2 q (by omega)
        · rcases f3 w hw with y | ⟨y1, y2⟩ | ⟨y1, y2⟩
          · exact Or.inl y
          · refine Or.inr ?_
            by_cases e : r w = p
            · refine Or.inr ⟨?_, fun q hq _ => by omega⟩
              cases e2 : (t ^^^ a).testBit w with
              | false => rfl
              | true => exact absurd e ((st w hw).mp e2).2
            · exact Or.inl ⟨(st w hw).mpr ⟨y1, e⟩, y2⟩
          · refine Or.inr (Or.inr ⟨?_, fun q hq hq2 => y2 q (by omega) hq2⟩)
            cases e2 : (t ^^^ a).testBit w with
            | false => rfl
            | true =>
              rw [((st w hw).mp e2).1] at y1
              cases y1
        · rw [f4, ek, hW]
          refine sum_split H.wo (fun w hw => ⟨fun e => ?_, fun e => ?_⟩)
          · obtain ⟨y1, y2⟩ := (ab w hw).mp e
            refine ⟨y1, ?_, y2⟩
            cases e2 : (t ^^^ a).testBit w with
            | false => rfl
            | true => exact absurd y2 ((st w hw).mp e2).2
          · refine ⟨?_, fun _ => rfl⟩
            rw [sb w, e]
            cases t.testBit w <;> rfl
end ROW
