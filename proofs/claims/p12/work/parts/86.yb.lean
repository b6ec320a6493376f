/-! THE CLASS'S ROWS: what its table of ranks holds, one person after the other -/
section RK
variable {H : HS} {cd : Nat → Nat} {g : Nat → Nat → Int} {lf : Nat}
/-- the class's search in the reference's words: of each person all sets that are his -/
noncomputable def mkC (H : HS) (cd : Nat → Nat) (g : Nat → Nat → Int) (lf : Nat) : rD := (H.wo, fun p k => @ite Nat (sbs k (cd p) ∧ fit H k (H.ho p)) (Classical.propDecidable _) k 0, fun _ => 2 ^ H.wo, g, lf)
theorem mkC_1 {p k : Nat} (h : sbs k (cd p) ∧ fit H k (H.ho p)) : dL (mkC H cd g lf) p k = k := if_pos h
theorem mkC_0 {p : Nat} : dL (mkC H cd g lf) p 0 = 0 := by
  show @ite Nat _ (Classical.propDecidable _) 0 0 = 0
  split <;> rfl
theorem mkC_L {N : Nat} : hLs H cd N (mkC H cd g lf) := by
  intro p _ a
  constructor
  · rintro ⟨k, hk, rfl⟩
    have hk : k < 2 ^ H.wo := hk
    by_cases h : sbs k (cd p) ∧ fit H k (H.ho p)
    · rw [mkC_1 h]
      exact ⟨hk, h⟩
    · have : dL (mkC H cd g lf) p k = 0 := if_neg h
      rw [this]
      exact ⟨Nat.two_pow_pos _, fun w hw => (by rw [Nat.zero_testBit] at hw; cases hw), fit_0⟩
  · rintro ⟨h1, h2⟩
    exact ⟨a, h1, mkC_1 h2⟩
def fx0 : Nat → Int := fun _ => -1
theorem fx0_ok {p t : Nat} {W : Nat} : okA W fx0 p t := fun _ _ => Or.inl rfl
theorem gvS_0 {f : Nat → Int} : ∀ n, gvS f n 0 = 0
  | 0 => rfl
  | n + 1 => by
    show gvS f n 0 + _ = 0
    rw [gvS_0 n, Nat.zero_testBit]
    rfl
theorem gvS_ge {f : Nat → Int} {t : Nat} : ∀ n, (∀ w, w < n → 0 ≤ f w) → 0 ≤ gvS f n t
  | 0, _ => Int.le_refl _
  | n + 1, h => by
    have := gvS_ge (t := t) n (fun w hw => h w (by omega))
    have := h n (Nat.lt_succ_self _)
    show 0 ≤ gvS f n t + _
    split <;> omega
theorem gvS_le {f : Nat → Int} {t : Nat} {G : Int} (hG : 0 ≤ G) : ∀ n, (∀ w, w < n → f w ≤ G) → gvS f n t ≤ n * G
  | 0, _ => by
    show (0 : Int) ≤ _
    rw [show ((0 : Nat) : Int) * G = 0 from Int.zero_mul _]
    exact Int.le_refl _
  | n + 1, h => by
    have h1 := gvS_le (t := t) hG n (fun w hw => h w (by omega))
    have h2 := h n (Nat.lt_succ_self _)
    show gvS f n t + _ ≤ _
    rw [show ((n + 1 : Nat) : Int) * G = n * G + G by rw [Int.natCast_succ, Int.add_mul, Int.one_mul]]
    split <;> omega
/-- one person more: of each set the best of what he may do of it -/
def admA (H : HS) (c m : Nat) (f : Nat → Int) (t a : Nat) : Prop := 0 < a ∧ a &&& (t &&& c) = a ∧ fit H a m ∧ f (t ^^^ a) ≠ -1
theorem Best_add {f f' : Nat → Int} {p : Nat} (hg : ∀ w, w < H.wo → 0 ≤ g p w) (hl : lf.testBit p = true) (h : Best (Rch (mkC H cd g lf) fx0 p) H.wo f) (h' : ∀ t, t < 2 ^ H.wo → (f' t = f t ∨ ∃ a, admA H (cd p) (H.ho p) f t a ∧ f' t = f (t ^^^ a) + gvS (g p) H.wo a) ∧ f t ≤ f' t ∧ ∀ a, admA H (cd p) (H.ho p) f t a → f (t ^^^ a) + gvS (g p) H.wo a ≤ f' t) : Best (Rch (mkC H cd g lf) fx0 (p + 1)) H.wo f' := by
  intro t ht
  obtain ⟨h1, h2, h3⟩ := h' t ht
  have up : ∀ v, Rch (mkC H cd g lf) fx0 (p + 1) t v → v ≤ f' t ∧ 0 ≤ f' t := by
    rintro v (⟨-, s, u, k, hk, hs, -, g4, g5, g6, g7⟩ | ⟨e, -⟩)
    · have hs : s < 2 ^ H.wo := hs
      obtain ⟨d1, d2⟩ := dsj g4 g5
      obtain ⟨k1, k2, k3⟩ := (mkC_L (H := H) (cd := cd) (g := g) (lf := lf) (N := p + 1) p (Nat.lt_succ_self _) _).mp ⟨k, hk, rfl⟩
      generalize dL (mkC H cd g lf) p k = a at *
      have ga := gvS_ge (t := a) H.wo hg
      have g7 : v = u + gvS (g p) H.wo a := g7
      rcases h s hs with ⟨-, b⟩ | ⟨a1, a2, a3⟩
      · exact absurd g6 (b u)
      · have u1 := a3 u g6
        by_cases a0 : a = 0
        · subst a0
          rw [Nat.xor_zero] at d1
          subst d1
          rw [gvS_0] at g7
          omega
        · have := h3 a ⟨by omega, sbs_and.mp (fun w hw => by rw [Nat.testBit_and, d2 w hw, k2 w hw]; rfl), k3, by rw [← d1]; omega⟩
          rw [← d1] at this
          omega
    · rw [show dLf (mkC H cd g lf) = lf from rfl, hl] at e
      cases e
  by_cases e : f' t = -1
  · exact Or.inl ⟨e, fun v hv => by have := up v hv; omega⟩
  · refine Or.inr ?_
    rcases h1 with h1 | ⟨a, ⟨a1, a2, a3, a4⟩, h1⟩
    · rcases h t ht with ⟨b, -⟩ | ⟨b1, b2, -⟩
      · exact absurd (h1.trans b) e
      · rw [h1] at up ⊢
        refine ⟨b1, Or.inl ⟨hl, t, f t, 0, Nat.two_pow_pos _, ht, fx0_ok, by rw [mkC_0]; exact Nat.and_zero _, by rw [mkC_0]; exact Nat.or_zero _, b2, ?_⟩, fun v hv => (up v hv).1⟩
        rw [mkC_0]
        show f t = f t + gvS (g p) H.wo 0
        rw [gvS_0]
        omega
    · have hs := sbs_and.mpr a2
      have s1 : sbs a t := fun w hw => by
        have := hs w hw
        rw [Nat.testBit_and, Bool.and_eq_true] at this
        exact this.1
      have s2 : sbs a (cd p) := fun w hw => by
        have := hs w hw
        rw [Nat.testBit_and, Bool.and_eq_true] at this
        exact this.2
      have al : a < 2 ^ H.wo := Nat.lt_of_le_of_lt (Nat.le_of_testBit s1) ht
      obtain ⟨d1, d2⟩ := dsj' s1
      have xl : t ^^^ a < 2 ^ H.wo := Nat.xor_lt_two_pow ht al
      have ga := gvS_ge (t := a) H.wo hg
      rcases h (t ^^^ a) xl with ⟨b, -⟩ | ⟨b1, b2, -⟩
      · exact absurd b a4
      · rw [h1] at up ⊢
        refine ⟨by omega, Or.inl ⟨hl, t ^^^ a, f (t ^^^ a), a, al, xl, fx0_ok, by rw [mkC_1 ⟨s2, a3⟩]; exact d1, by rw [mkC_1 ⟨s2, a3⟩]; exact d2, b2, ?_⟩, fun v hv => (up v hv).1⟩
        rw [mkC_1 ⟨s2, a3⟩]
        rfl
theorem Best_non {f : Nat → Int} {p : Nat} (hl : lf.testBit p = false) (h : Best (Rch (mkC H cd g lf) fx0 p) H.wo f) : Best (Rch (mkC H cd g lf) fx0 (p + 1)) H.wo f := Best.pass (D := mkC H cd g lf) hl h
theorem sumR_le {r : Nat → Nat} {t : Nat} {G : Int} (hG : 0 ≤ G) : ∀ n, (∀ w, w < n → t.testBit w = true → g (r w) w ≤ G) → sumR g r t n ≤ n * G
  | 0, _ => by
    show (0 : Int) ≤ _
    rw [show ((0 : Nat) : Int) * G = 0 from Int.zero_mul _]
    exact Int.le_refl _
  | n + 1, h => by
    have h1 := sumR_le (r := r) (t := t) hG n (fun w hw => h w (by omega))
    have h2 := h n (Nat.lt_succ_self _)
    show sumR g r t n + _ ≤ _
    rw [show ((n + 1 : Nat) : Int) * G = n * G + G by rw [Int.natCast_succ, Int.add_mul, Int.one_mul]]
    split
    · next e =>
        have := h2 e
        omega
    · omega
/-- no sum in the table is above so many times the greatest gain -/
theorem Best_le {f : Nat → Int} {N : Nat} {G : Int} (hG : 0 ≤ G) (hg : ∀ p w, p < N → w < H.wo → g p w ≤ G) (h : Best (Rch (mkC H cd g lf) fx0 N) H.wo f) {t : Nat} (ht : t < 2 ^ H.wo) : -1 ≤ f t ∧ f t ≤ H.wo * G := by
  have := Int.mul_nonneg (Int.natCast_nonneg H.wo) hG
  rcases h t ht with ⟨a, -⟩ | ⟨a, b, -⟩
  · omega
  · obtain ⟨r, r1, -, r3⟩ := (Rch_row (H := H) (cd := cd) (lf := lf) (N := N) (D := mkC H cd g lf) rfl rfl mkC_L N (Nat.le_refl _) t ht _).mp b
    have := sumR_le (g := g) (r := r) (t := t) hG H.wo (fun w hw hb => hg _ _ (r1.1 w hw hb).1 hw)
    have r3 : f t = sumR g r t H.wo := r3
    omega
end RK
/-! THE BEST ROW: skills together, then the row as a number in eights -/
def skG (H : HS) (p w : Nat) : Int := (H.sk (8 * p + w) : Int)
def cdG (p w : Nat) : Int := ((7 - p : Nat) : Int) * ((8 ^ (7 - w) : Nat) : Int)
def rkG (H : HS) (p w : Nat) : Int := 16777216 * skG H p w + cdG p w
theorem sumR_lin {H : HS} {r : Nat → Nat} {t : Nat} : ∀ n, sumR (rkG H) r t n = 16777216 * sumR (skG H) r t n + sumR cdG r t n
  | 0 => rfl
  | n + 1 => by
    show sumR (rkG H) r t n + _ = 16777216 * (sumR (skG H) r t n + _) + (sumR cdG r t n + _)
    rw [sumR_lin n]
    unfold rkG
    split <;> omega
/-- the row's number lies below a power of eight, and is not below 0 -/
theorem cod_lt {r : Nat → Nat} {t : Nat} : ∀ n, n ≤ 8 → 0 ≤ sumR cdG r t n ∧ sumR cdG r t n + ((8 ^ (8 - n) : Nat) : Int) ≤ 16777216
  | 0, _ => ⟨Int.le_refl _, show (0 : Int) + ((8 ^ 8 : Nat) : Int) ≤ 16777216 by decide⟩
  | n + 1, hn => by
    obtain ⟨h1, h2⟩ := cod_lt (r := r) (t := t) n (by omega)
    have e : 8 - n = (7 - n) + 1 := by omega
    have e2 : 8 - (n + 1) = 7 - n := by omega
    rw [e, Nat.pow_succ] at h2
    rw [e2]
    have hc : cdG (r n) n = ((7 - r n : Nat) : Int) * ((8 ^ (7 - n) : Nat) : Int) := rfl
    have h7 : 7 - r n ≤ 7 := Nat.sub_le _ _
    generalize 8 ^ (7 - n) = q at *
    have b1 : ((7 - r n : Nat) : Int) * (q : Int) ≤ 7 * (q : Int) := Int.mul_le_mul_of_nonneg_right (by omega) (Int.natCast_nonneg _)
    have b0 : 0 ≤ ((7 - r n : Nat) : Int) * (q : Int) := Int.mul_nonneg (Int.natCast_nonneg _) (Int.natCast_nonneg _)
    show 0 ≤ sumR cdG r t n + _ ∧ sumR cdG r t n + _ + _ ≤ _
    rw [hc]
    generalize ((7 - r n : Nat) : Int) * (q : Int) = z at *
    split <;> omega
theorem cod_in {r : Nat → Nat} {t n : Nat} (hn : n ≤ 8) : 0 ≤ sumR cdG r t n ∧ sumR cdG r t n < 16777216 := by
  obtain ⟨h1, h2⟩ := cod_lt (r := r) (t := t) n hn
  have : 0 < 8 ^ (8 - n) := Nat.pow_pos (by decide)
  omega
/-- all skills of the best row; -1: there is none -/
def dyP (H : HS) (lf : Nat) (S : Int) : Prop := (0 ≤ S ∧ (∃ r, rowO H H.cd lf H.pe (2 ^ H.wo - 1) r ∧ sumR (skG H) r (2 ^ H.wo - 1) H.wo = S) ∧ ∀ r, rowO H H.cd lf H.pe (2 ^ H.wo - 1) r → sumR (skG H) r (2 ^ H.wo - 1) H.wo ≤ S) ∨ (S = -1 ∧ ∀ r, ¬ rowO H H.cd lf H.pe (2 ^ H.wo - 1) r)
theorem dyP_u {H : HS} {lf : Nat} {S S' : Int} (h : dyP H lf S) (h' : dyP H lf S') : S = S' := by
  rcases h with ⟨-, ⟨r, r1, r2⟩, h2⟩ | ⟨h1, h2⟩ <;> rcases h' with ⟨-, ⟨r', r1', r2'⟩, h2'⟩ | ⟨h1', h2'⟩
  · have := h2 r' r1'
    have := h2' r r1
    omega
  · exact absurd r1 (h2' r)
  · exact absurd r1' (h2 r')
  · omega
/-- by ranks -/
theorem rk_dy {H : HS} {lf : Nat} {f : Nat → Int} (w8 : H.wo ≤ 8) (h : Best (Rch (mkC H H.cd (rkG H) lf) fx0 H.pe) H.wo f) : (f (2 ^ H.wo - 1) = -1 ∧ dyP H lf (-1)) ∨ ∃ S c : Int, ∃ r, f (2 ^ H.wo - 1) = 16777216 * S + c ∧ 0 ≤ S ∧ 0 ≤ c ∧ c < 16777216 ∧ dyP H lf S ∧ rowO H H.cd lf H.pe (2 ^ H.wo - 1) r ∧ sumR (skG H) r (2 ^ H.wo - 1) H.wo = S ∧ sumR cdG r (2 ^ H.wo - 1) H.wo = c ∧ ∀ r', rowO H H.cd lf H.pe (2 ^ H.wo - 1) r' → sumR (skG H) r' (2 ^ H.wo - 1) H.wo = S → sumR cdG r' (2 ^ H.wo - 1) H.wo ≤ c := by
  have P := Nat.two_pow_pos H.wo
  have key := fun v => Rch_row (H := H) (cd := H.cd) (lf := lf) (N := H.pe) (D := mkC H H.cd (rkG H) lf) (fx := fx0) rfl rfl mkC_L H.pe (Nat.le_refl _) (2 ^ H.wo - 1) (by omega) v
  have fxr : ∀ r, fxO fx0 lf H.pe (2 ^ H.wo - 1) H.wo r := fun r w _ => Or.inl rfl
  rcases h (2 ^ H.wo - 1) (by omega) with ⟨a, b⟩ | ⟨a, b, c⟩
  · exact Or.inl ⟨a, Or.inr ⟨rfl, fun r hr => b _ ((key _).mpr ⟨r, hr, fxr r, rfl⟩)⟩⟩
  · obtain ⟨r, r1, -, r3⟩ := (key _).mp b
    have r3 : f (2 ^ H.wo - 1) = sumR (rkG H) r (2 ^ H.wo - 1) H.wo := r3
    rw [sumR_lin] at r3
    have c1 := cod_in (r := r) (t := 2 ^ H.wo - 1) w8
    have up : ∀ r', rowO H H.cd lf H.pe (2 ^ H.wo - 1) r' → 16777216 * sumR (skG H) r' (2 ^ H.wo - 1) H.wo + sumR cdG r' (2 ^ H.wo - 1) H.wo ≤ f (2 ^ H.wo - 1) := fun r' hr' => by
      have := c _ ((key _).mpr ⟨r', hr', fxr r', rfl⟩)
      rw [show dG (mkC H H.cd (rkG H) lf) = rkG H from rfl, sumR_lin] at this
      exact this
    refine Or.inr ⟨_, _, r, r3, by omega, c1.1, c1.2, Or.inl ⟨by omega, ⟨r, r1, rfl⟩, fun r' hr' => ?_⟩, r1, rfl, rfl, fun r' hr' e => ?_⟩
    · have := up r' hr'
      have := cod_in (r := r') (t := 2 ^ H.wo - 1) w8
      omega
    · have := up r' hr'
      omega
