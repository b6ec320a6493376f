/-! WHO CAN DO WHICH WORKS: a set of works as a number; by a house, for those who are left -/
theorem sub_next : ∀ (p own a : Nat), p &&& own = p → a &&& own = a → a < p → a ≤ (p - 1) &&& own := by
  intro p
  induction p using Nat.strongRecOn with
  | _ p ih =>
    intro own a hp ha hlt
    have hp2 := congrArg (· / 2) hp
    have ha2 := congrArg (· / 2) ha
    simp only [Nat.and_div_two] at hp2 ha2
    have e : ((p - 1) &&& own) / 2 = (p - 1) / 2 &&& own / 2 := Nat.and_div_two
    have m1 : ((p - 1) &&& own) % 2 = 1 ↔ (p - 1) % 2 = 1 ∧ own % 2 = 1 := Nat.and_mod_two_eq_one
    have m2 : (p &&& own) % 2 = 1 ↔ p % 2 = 1 ∧ own % 2 = 1 := Nat.and_mod_two_eq_one
    have m3 : (a &&& own) % 2 = 1 ↔ a % 2 = 1 ∧ own % 2 = 1 := Nat.and_mod_two_eq_one
    rw [hp] at m2
    rw [ha] at m3
    by_cases o : p % 2 = 1
    · have : (p - 1) / 2 = p / 2 := by omega
      rw [this, hp2] at e
      omega
    · have q : (p - 1) / 2 = p / 2 - 1 := by omega
      have := ih (p / 2) (by omega) (own / 2) (a / 2) hp2 ha2 (by omega)
      rw [q] at e
      omega
def sbs (a b : Nat) : Prop := ∀ w, a.testBit w = true → b.testBit w = true
theorem sbs_and {a b : Nat} : sbs a b ↔ a &&& b = a := by
  constructor
  · intro h
    refine Nat.eq_of_testBit_eq fun i => ?_
    rw [Nat.testBit_and]
    cases e : a.testBit i with
    | false => rfl
    | true => rw [h i e]; rfl
  · intro h w hw
    rw [← h, Nat.testBit_and, Bool.and_eq_true] at hw
    exact hw.2
theorem dsj {s a t : Nat} (h1 : s &&& a = 0) (h2 : s ||| a = t) : s = t ^^^ a ∧ sbs a t := by
  subst h2
  constructor
  · refine Nat.eq_of_testBit_eq fun i => ?_
    have := congrArg (fun z => z.testBit i) h1
    simp only [Nat.testBit_and, Nat.zero_testBit] at this
    rw [Nat.testBit_xor, Nat.testBit_or]
    cases e1 : s.testBit i <;> cases e2 : a.testBit i <;> rw [e1, e2] at this <;> first
      | rfl
      | cases this
  · intro w hw
    rw [Nat.testBit_or, hw, Bool.or_true]
theorem dsj' {a t : Nat} (h : sbs a t) : (t ^^^ a) &&& a = 0 ∧ (t ^^^ a) ||| a = t := by
  constructor
  · refine Nat.eq_of_testBit_eq fun i => ?_
    rw [Nat.testBit_and, Nat.testBit_xor, Nat.zero_testBit]
    cases e2 : a.testBit i with
    | false => rw [Bool.and_false]
    | true => rw [h i e2]; rfl
  · refine Nat.eq_of_testBit_eq fun i => ?_
    rw [Nat.testBit_or, Nat.testBit_xor]
    cases e2 : a.testBit i with
    | false => rw [Bool.or_false, Bool.xor_false]
    | true => rw [h i e2]; rfl
def clh (H : HS) (a b : Nat) : Prop := H.be a < H.be b + H.le b ∧ H.be b < H.be a + H.le a
def noC (H : HS) (n t : Nat) : Prop := ∀ a, a < n → t.testBit a = true → ∀ b, b < a → t.testBit b = true → ¬ clh H a b
def sumL (H : HS) : Nat → Nat → Nat
  | 0, _ => 0
  | w + 1, t => sumL H w t + (if t.testBit w = true then H.le w else 0)
def fit (H : HS) (t m : Nat) : Prop := noC H H.wo t ∧ sumL H H.wo t ≤ m
/-- the people below p, of those who are left, can do just the set t -/
def rea (H : HS) (cd : Nat → Nat) (lf : Nat) : Nat → Nat → Prop
  | 0, t => t = 0
  | p + 1, t => (lf.testBit p = true ∧ ∃ s a, a < 2 ^ H.wo ∧ sbs a (cd p) ∧ fit H a (H.ho p) ∧ s &&& a = 0 ∧ s ||| a = t ∧ rea H cd lf p s) ∨ (lf.testBit p = false ∧ rea H cd lf p t)
section REA
variable {H : HS} {cd : Nat → Nat} {lf : Nat}
theorem sumL_0 : ∀ n, sumL H n 0 = 0
  | 0 => rfl
  | n + 1 => by
    show sumL H n 0 + _ = 0
    rw [sumL_0 n, Nat.zero_testBit]
    rfl
theorem fit_0 {m : Nat} : fit H 0 m := ⟨fun a _ h => (by rw [Nat.zero_testBit] at h; cases h), by rw [sumL_0]; exact Nat.zero_le _⟩
theorem rea_low {lf' : Nat} : ∀ {p t : Nat}, (∀ q, q < p → lf.testBit q = lf'.testBit q) → (rea H cd lf p t ↔ rea H cd lf' p t)
  | 0, _, _ => Iff.rfl
  | p + 1, t, h => by
    have ih : ∀ s, rea H cd lf p s ↔ rea H cd lf' p s := fun s => rea_low (fun q hq => h q (by omega))
    show (_ ∨ _) ↔ (_ ∨ _)
    rw [h p (Nat.lt_succ_self _), ih t]
    refine or_congr (and_congr Iff.rfl ⟨?_, ?_⟩) Iff.rfl
    · rintro ⟨s, a, h1, h2, h3, h4, h5, h6⟩
      exact ⟨s, a, h1, h2, h3, h4, h5, (ih s).mp h6⟩
    · rintro ⟨s, a, h1, h2, h3, h4, h5, h6⟩
      exact ⟨s, a, h1, h2, h3, h4, h5, (ih s).mpr h6⟩
theorem rea_skip {p t : Nat} (h : lf < 2 ^ p) : rea H cd lf (p + 1) t ↔ rea H cd lf p t := by
  have e := Nat.testBit_lt_two_pow h
  constructor
  · rintro (⟨h1, -⟩ | ⟨-, h2⟩)
    · rw [e] at h1
      cases h1
    · exact h2
  · exact fun h => Or.inr ⟨e, h⟩
theorem rea_with {p t : Nat} (h : lf < 2 ^ p) (ht : t < 2 ^ H.wo) : rea H cd (lf + 2 ^ p) (p + 1) t ↔ (rea H cd lf p t ∨ ∃ a, 0 < a ∧ a &&& (t &&& cd p) = a ∧ fit H a (H.ho p) ∧ rea H cd lf p (t ^^^ a)) := by
  have e0 : (lf + 2 ^ p).testBit p = true := by
    rw [Nat.add_comm, Nat.testBit_two_pow_add_eq, Nat.testBit_lt_two_pow h]
    rfl
  have lo : ∀ s, rea H cd (lf + 2 ^ p) p s ↔ rea H cd lf p s := fun s => rea_low (fun q hq => by rw [Nat.add_comm, Nat.testBit_two_pow_add_gt hq])
  constructor
  · rintro (⟨-, s, a, h1, h2, h3, h4, h5, h6⟩ | ⟨h1, -⟩)
    · obtain ⟨d1, d2⟩ := dsj h4 h5
      by_cases a0 : a = 0
      · subst a0
        refine Or.inl ?_
        rw [Nat.xor_zero] at d1
        rw [← d1]
        exact (lo s).mp h6
      · refine Or.inr ⟨a, by omega, sbs_and.mp (fun w hw => ?_), h3, ?_⟩
        · rw [Nat.testBit_and, d2 w hw, h2 w hw]
          rfl
        · rw [← d1]
          exact (lo s).mp h6
    · rw [e0] at h1
      cases h1
  · rintro (h1 | ⟨a, h1, h2, h3, h4⟩)
    · exact Or.inl ⟨e0, t, 0, Nat.two_pow_pos _, fun w hw => (by rw [Nat.zero_testBit] at hw; cases hw), fit_0, Nat.and_zero _, Nat.or_zero _, (lo t).mpr h1⟩
    · have hs := sbs_and.mpr h2
      have s1 : sbs a t := fun w hw => by
        have := hs w hw
        rw [Nat.testBit_and, Bool.and_eq_true] at this
        exact this.1
      have s2 : sbs a (cd p) := fun w hw => by
        have := hs w hw
        rw [Nat.testBit_and, Bool.and_eq_true] at this
        exact this.2
      obtain ⟨d1, d2⟩ := dsj' s1
      exact Or.inl ⟨e0, t ^^^ a, a, Nat.lt_of_le_of_lt (Nat.le_of_testBit s1) ht, s2, h3, d1, d2, (lo _).mpr h4⟩
/-- what the reference's lists reach is what can be done -/
theorem Rch_rea {D : rD} {fx : Nat → Int} {N : Nat} (hW : dW D = H.wo) (hf : ∀ w, w < dW D → fx w = -1) (hl : dLf D = lf) (hL : ∀ p, p < N → ∀ a, (∃ k, k < dN D p ∧ dL D p k = a) ↔ (a < 2 ^ H.wo ∧ sbs a (cd p) ∧ fit H a (H.ho p))) : ∀ p, p ≤ N → ∀ t, t < 2 ^ H.wo → ((∃ v, Rch D fx p t v) ↔ rea H cd lf p t) := by
  intro p
  induction p with
  | zero =>
    intro _ t _
    exact ⟨fun ⟨v, h, _⟩ => h, fun h => ⟨0, h, rfl⟩⟩
  | succ p ih =>
    intro hp t ht
    have ih := ih (by omega)
    constructor
    · rintro ⟨v, ⟨h1, s, u, k, hk, hs, -, h4, h5, h6, -⟩ | ⟨h1, h2⟩⟩
      · obtain ⟨g1, g2, g3⟩ := (hL p (by omega) _).mp ⟨k, hk, rfl⟩
        rw [hW] at hs
        exact Or.inl ⟨by rw [← hl]; exact h1, s, _, g1, g2, g3, h4, h5, (ih s hs).mp ⟨u, h6⟩⟩
      · exact Or.inr ⟨by rw [← hl]; exact h1, (ih t ht).mp ⟨v, h2⟩⟩
    · rintro (⟨h1, s, a, g1, g2, g3, h4, h5, h6⟩ | ⟨h1, h2⟩)
      · obtain ⟨k, hk, rfl⟩ := (hL p (by omega) a).mpr ⟨g1, g2, g3⟩
        have hs : s < 2 ^ H.wo := Nat.lt_of_le_of_lt (Nat.le_of_testBit (fun i hi => by rw [← h5, Nat.testBit_or, hi, Bool.true_or])) ht
        obtain ⟨u, hu⟩ := (ih s hs).mpr h6
        exact ⟨_, Or.inl ⟨by rw [hl]; exact h1, s, u, k, hk, by rw [hW]; exact hs, fun w hw => Or.inl (hf w hw), h4, h5, hu, rfl⟩⟩
      · obtain ⟨v, hv⟩ := (ih t ht).mpr h2
        exact ⟨v, Or.inr ⟨by rw [hl]; exact h1, hv⟩⟩
theorem Best_rea {D : rD} {fx f : Nat → Int} {N : Nat} (hW : dW D = H.wo) (hf : ∀ w, w < dW D → fx w = -1) (hl : dLf D = lf) (hL : ∀ p, p < N → ∀ a, (∃ k, k < dN D p ∧ dL D p k = a) ↔ (a < 2 ^ H.wo ∧ sbs a (cd p) ∧ fit H a (H.ho p))) (hb : Best (Rch D fx N) (dW D) f) {t : Nat} (ht : t < 2 ^ H.wo) : f t ≠ -1 ↔ rea H cd lf N t := by
  rw [← Rch_rea hW hf hl hL N (Nat.le_refl _) t ht]
  rcases hb t (by rw [hW]; exact ht) with ⟨a, b⟩ | ⟨a, b, -⟩
  · exact ⟨fun h => absurd a h, fun ⟨v, hv⟩ => absurd hv (b v)⟩
  · exact ⟨fun _ => ⟨_, b⟩, fun _ h => by omega⟩
end REA
/-! hours of a set -/
def hb (H : HS) (w : Nat) : Nat := (2 ^ H.le w - 1) <<< H.be w
def bsy (H : HS) : Nat → Nat → Nat
  | 0, _ => 0
  | w + 1, t => bsy H w t ||| (if t.testBit w = true then hb H w else 0)
section SPN
variable {H : HS}
theorem hb_bit {w h : Nat} : (hb H w).testBit h = true ↔ H.be w ≤ h ∧ h < H.be w + H.le w := by
  unfold hb
  rw [Nat.testBit_shiftLeft, Nat.testBit_two_pow_sub_one, Bool.and_eq_true, decide_eq_true_eq, decide_eq_true_eq]
  constructor
  · rintro ⟨a, b⟩
    omega
  · rintro ⟨a, b⟩
    omega
theorem bsy_bit {t h : Nat} : ∀ {n : Nat}, (bsy H n t).testBit h = true ↔ ∃ b, b < n ∧ t.testBit b = true ∧ (hb H b).testBit h = true
  | 0 => ⟨fun a => (by rw [bsy, Nat.zero_testBit] at a; cases a), fun ⟨b, hb, _⟩ => absurd hb (Nat.not_lt_zero _)⟩
  | n + 1 => by
    show (bsy H n t ||| _).testBit h = true ↔ _
    rw [Nat.testBit_or, Bool.or_eq_true, bsy_bit (n := n)]
    constructor
    · rintro (⟨b, h1, h2⟩ | h1)
      · exact ⟨b, by omega, h2⟩
      · by_cases e : t.testBit n = true
        · rw [if_pos e] at h1
          exact ⟨n, by omega, e, h1⟩
        · rw [if_neg e, Nat.zero_testBit] at h1
          cases h1
    · rintro ⟨b, h1, h2, h3⟩
      by_cases e : b = n
      · subst e
        exact Or.inr (by rw [if_pos h2]; exact h3)
      · exact Or.inl ⟨b, by omega, h2, h3⟩
theorem bsy_clh {n w t : Nat} (hl : ∀ b, b < n → 1 ≤ H.le b) (hw : 1 ≤ H.le w) : (bsy H n t &&& hb H w = 0) ↔ ∀ b, b < n → t.testBit b = true → ¬ clh H w b := by
  constructor
  · intro h b h1 h2 ⟨c1, c2⟩
    have hb1 := hl b h1
    have e := congrArg (fun z => z.testBit (max (H.be w) (H.be b))) h
    simp only [Nat.testBit_and, Nat.zero_testBit] at e
    rw [bsy_bit.mpr ⟨b, h1, h2, hb_bit.mpr (by omega)⟩, hb_bit.mpr (by omega)] at e
    cases e
  · intro h
    refine Nat.eq_of_testBit_eq fun i => ?_
    rw [Nat.testBit_and, Nat.zero_testBit]
    cases e : (bsy H n t).testBit i with
    | false => rfl
    | true =>
      obtain ⟨b, h1, h2, h3⟩ := bsy_bit.mp e
      cases e2 : (hb H w).testBit i with
      | false => rfl
      | true =>
        have g1 := hb_bit.mp h3
        have g2 := hb_bit.mp e2
        exact absurd ⟨by omega, by omega⟩ (h b h1 h2)
theorem tb_add {w t b : Nat} (ht : t < 2 ^ w) : (2 ^ w + t).testBit b = if b = w then true else t.testBit b := by
  have e0 := Nat.two_pow_add_eq_or_of_lt ht 1
  rw [Nat.mul_one] at e0
  rw [e0, Nat.testBit_or, Nat.testBit_two_pow]
  by_cases e : b = w
  · subst e
    rw [if_pos rfl, decide_eq_true rfl, Bool.true_or]
  · rw [if_neg e, decide_eq_false (fun h => e h.symm), Bool.false_or]
theorem tb_no {w t b : Nat} (ht : t < 2 ^ w) (hb : w ≤ b) : t.testBit b = false := Nat.testBit_lt_two_pow (Nat.lt_of_lt_of_le ht (Nat.pow_le_pow_right (by decide) hb))
theorem sumL_eq {t t' : Nat} : ∀ {n : Nat}, (∀ b, b < n → t'.testBit b = t.testBit b) → sumL H n t' = sumL H n t
  | 0, _ => rfl
  | n + 1, h => by
    show sumL H n t' + _ = sumL H n t + _
    rw [sumL_eq (fun b hb => h b (by omega)), h n (Nat.lt_succ_self _)]
theorem bsy_eq {t t' : Nat} : ∀ {n : Nat}, (∀ b, b < n → t'.testBit b = t.testBit b) → bsy H n t' = bsy H n t
  | 0, _ => rfl
  | n + 1, h => by
    show bsy H n t' ||| _ = bsy H n t ||| _
    rw [bsy_eq (fun b hb => h b (by omega)), h n (Nat.lt_succ_self _)]
theorem sumL_hi {w t : Nat} (ht : t < 2 ^ w) : ∀ d, sumL H (w + d) t = sumL H w t
  | 0 => rfl
  | d + 1 => by
    show sumL H (w + d) t + (if t.testBit (w + d) = true then H.le (w + d) else 0) = _
    rw [sumL_hi ht d, tb_no ht (Nat.le_add_right _ _)]
    rfl
theorem bsy_hi {w t : Nat} (ht : t < 2 ^ w) : ∀ d, bsy H (w + d) t = bsy H w t
  | 0 => rfl
  | d + 1 => by
    show bsy H (w + d) t ||| (if t.testBit (w + d) = true then hb H (w + d) else 0) = _
    rw [bsy_hi ht d, tb_no ht (Nat.le_add_right _ _)]
    exact Nat.or_zero _
theorem sumL_add {w t n : Nat} (ht : t < 2 ^ w) (hn : w < n) : sumL H n (2 ^ w + t) = sumL H n t + H.le w := by
  have h2 : 2 ^ w + t < 2 ^ (w + 1) := by rw [Nat.pow_succ]; omega
  obtain ⟨d, rfl⟩ : ∃ d, n = (w + 1) + d := ⟨n - (w + 1), by omega⟩
  rw [sumL_hi h2, show w + 1 + d = w + (1 + d) by omega, sumL_hi ht]
  show sumL H w (2 ^ w + t) + _ = _
  rw [sumL_eq (t := t) (fun b hb => by rw [tb_add ht, if_neg (by omega)]), tb_add ht, if_pos rfl]
  rfl
theorem bsy_add {w t n : Nat} (ht : t < 2 ^ w) (hn : w < n) : bsy H n (2 ^ w + t) = bsy H n t ||| hb H w := by
  have h2 : 2 ^ w + t < 2 ^ (w + 1) := by rw [Nat.pow_succ]; omega
  obtain ⟨d, rfl⟩ : ∃ d, n = (w + 1) + d := ⟨n - (w + 1), by omega⟩
  rw [bsy_hi h2, show w + 1 + d = w + (1 + d) by omega, bsy_hi ht]
  show bsy H w (2 ^ w + t) ||| _ = _
  rw [bsy_eq (t := t) (fun b hb => by rw [tb_add ht, if_neg (by omega)]), tb_add ht, if_pos rfl]
  rfl
theorem noC_add {w t n : Nat} (ht : t < 2 ^ w) (hn : w < n) : noC H n (2 ^ w + t) ↔ (noC H n t ∧ ∀ b, b < n → t.testBit b = true → ¬ clh H w b) := by
  constructor
  · intro h
    refine ⟨fun a ha h1 b hb h2 => h a ha ?_ b hb ?_, fun b hb h1 => ?_⟩
    · rw [tb_add ht]
      split
      · rfl
      · exact h1
    · rw [tb_add ht]
      split
      · rfl
      · exact h2
    · have : b < w := Nat.lt_of_not_le fun hle => by rw [tb_no ht hle] at h1; cases h1
      exact h w hn (by rw [tb_add ht, if_pos rfl]) b this (by rw [tb_add ht, if_neg (by omega)]; exact h1)
  · rintro ⟨h1, h2⟩ a ha ga b hb gb
    have hbw : b ≠ w := by
      intro e
      subst e
      rw [tb_add ht, if_neg (by omega), tb_no ht (by omega)] at ga
      cases ga
    rw [tb_add ht, if_neg hbw] at gb
    by_cases e : a = w
    · subst e
      exact h2 b (by omega) gb
    · rw [tb_add ht, if_neg e] at ga
      exact h1 a ha ga b hb gb
end SPN
/-! the greatest number, the smallest set that bars -/
section RMX
variable {H : HS} {cd : Nat → Nat} {lf : Nat}
theorem rea_0 : ∀ p, rea H cd lf p 0
  | 0 => rfl
  | p + 1 => by
    cases e : lf.testBit p with
    | true => exact Or.inl ⟨e, 0, 0, Nat.two_pow_pos _, fun w hw => (by rw [Nat.zero_testBit] at hw; cases hw), fit_0, rfl, rfl, rea_0 p⟩
    | false => exact Or.inr ⟨e, rea_0 p⟩
theorem sumL_mono {a b : Nat} (h : sbs a b) : ∀ n, sumL H n a ≤ sumL H n b
  | 0 => Nat.le_refl _
  | n + 1 => by
    have := sumL_mono h n
    show sumL H n a + _ ≤ sumL H n b + _
    by_cases e : a.testBit n = true
    · rw [if_pos e, if_pos (h n e)]
      omega
    · rw [if_neg e]
      split <;> omega
theorem fit_mono {a b m : Nat} (h : sbs a b) (hf : fit H b m) : fit H a m := ⟨fun x hx h1 y hy h2 => hf.1 x hx (h x h1) y hy (h y h2), Nat.le_trans (sumL_mono h _) hf.2⟩
theorem rea_mono : ∀ p {t t' : Nat}, sbs t' t → rea H cd lf p t → rea H cd lf p t'
  | 0, t, t', h, h0 => by
    have e : t = 0 := h0
    subst e
    refine Nat.eq_of_testBit_eq fun i => ?_
    cases e : t'.testBit i with
    | true => exact absurd (h i e) (by rw [Nat.zero_testBit]; decide)
    | false => rw [Nat.zero_testBit]
  | p + 1, t, t', h, h0 => by
    rcases h0 with ⟨h1, s, a, h2, h3, h4, h5, h6, h7⟩ | ⟨h1, h2⟩
    · have sa : sbs (a &&& t') a := fun w hw => by
        rw [Nat.testBit_and, Bool.and_eq_true] at hw
        exact hw.1
      have ss : sbs (s &&& t') s := fun w hw => by
        rw [Nat.testBit_and, Bool.and_eq_true] at hw
        exact hw.1
      refine Or.inl ⟨h1, s &&& t', a &&& t', Nat.lt_of_le_of_lt (Nat.le_of_testBit sa) h2, fun w hw => h3 w (sa w hw), fit_mono sa h4, ?_, ?_, rea_mono p ss h7⟩
      · refine Nat.eq_of_testBit_eq fun i => ?_
        have := congrArg (fun z => z.testBit i) h5
        simp only [Nat.testBit_and, Nat.zero_testBit] at this
        rw [Nat.testBit_and, Nat.testBit_and, Nat.testBit_and, Nat.zero_testBit]
        cases e1 : s.testBit i <;> cases e2 : a.testBit i <;> rw [e1, e2] at this <;> first
          | (cases this; done)
          | (cases t'.testBit i <;> rfl)
      · refine Nat.eq_of_testBit_eq fun i => ?_
        rw [Nat.testBit_or, Nat.testBit_and, Nat.testBit_and]
        cases e : t'.testBit i with
        | false => rw [Bool.and_false, Bool.and_false]; rfl
        | true =>
          have := h i e
          rw [← h6, Nat.testBit_or] at this
          rw [Bool.and_true, Bool.and_true]
          exact this
    · exact Or.inr ⟨h1, rea_mono p h h2⟩
end RMX
/-! bits of a long -/
def bL (x : Int64) (i : Nat) : Bool := x.toBitVec.getLsbD i
theorem bL_or {x y : Int64} {i : Nat} : bL (x ||| y) i = (bL x i || bL y i) := by
  unfold bL
  rw [Int64.toBitVec_or, BitVec.getLsbD_or]
theorem bL_and {x y : Int64} {i : Nat} : bL (x &&& y) i = (bL x i && bL y i) := by
  unfold bL
  rw [Int64.toBitVec_and, BitVec.getLsbD_and]
theorem bL_0 {i : Nat} : bL 0 i = false := by
  unfold bL
  exact BitVec.getLsbD_zero
theorem bL_hi {x : Int64} {i : Nat} (h : 64 ≤ i) : bL x i = false := BitVec.getLsbD_of_ge _ _ h
theorem bL_ext {x y : Int64} (h : ∀ i, i < 64 → bL x i = bL y i) : x = y := Int64.toBitVec_inj.mp (BitVec.eq_of_getLsbD_eq h)
theorem sh63 {s : Nat} (hs : s < 64) : (Int32.ofNat s).toInt64 &&& 63 = Int64.ofNat s := by
  have : ∀ s : Fin 64, (Int32.ofNat s.val).toInt64 &&& 63 = Int64.ofNat s.val := by decide +kernel
  exact this ⟨s, hs⟩
theorem bL_shl {x : Int64} {s i : Nat} (hs : s < 64) : bL (x <<< ((Int32.ofNat s).toInt64 &&& 63)) i = (decide (i < 64) && !decide (i < s) && bL x (i - s)) := by
  rw [sh63 hs]
  unfold bL
  rw [Int64.toBitVec_shiftLeft, Int64.toBitVec_ofNat']
  have e : (BitVec.ofNat 64 s).smod 64 = BitVec.ofNat 64 s := by
    have : ∀ s : Fin 64, (BitVec.ofNat 64 s.val).smod 64 = BitVec.ofNat 64 s.val := by decide +kernel
    exact this ⟨s, hs⟩
  rw [e, BitVec.shiftLeft_eq', BitVec.getLsbD_shiftLeft, BitVec.toNat_ofNat, Nat.mod_eq_of_lt (by omega)]
theorem bL_1 {i : Nat} : bL 1 i = decide (i = 0) := by
  unfold bL
  show (1#64).getLsbD i = _
  rw [BitVec.getLsbD_one]
  simp
theorem bL_one {s i : Nat} (hs : s < 64) : bL ((1 : Int64) <<< ((Int32.ofNat s).toInt64 &&& 63)) i = decide (i = s) := by
  rw [bL_shl hs, bL_1]
  by_cases e : i = s
  · subst e
    simp [hs]
  · by_cases h1 : i < s
    · simp [h1, e]
    · have : ¬ i - s = 0 := by omega
      simp [e, this]
theorem bL_ushr {x : Int64} {s i : Nat} (hs : s < 64) : bL ((x.toUInt64 >>> ((Int32.ofNat s).toInt64.toUInt64 &&& Int64.toUInt64 63)).toInt64) i = bL x (s + i) := by
  have e : (Int32.ofNat s).toInt64.toUInt64 &&& Int64.toUInt64 63 = UInt64.ofNat s := by
    have : ∀ s : Fin 64, (Int32.ofNat s.val).toInt64.toUInt64 &&& Int64.toUInt64 63 = UInt64.ofNat s.val := by decide +kernel
    exact this ⟨s, hs⟩
  rw [e]
  unfold bL
  show (x.toUInt64 >>> UInt64.ofNat s).toBitVec.getLsbD i = _
  rw [UInt64.toBitVec_shiftRight]
  have e2 : (UInt64.ofNat s).toBitVec % 64 = BitVec.ofNat 64 s := by
    have : ∀ s : Fin 64, (UInt64.ofNat s.val).toBitVec % 64 = BitVec.ofNat 64 s.val := by decide +kernel
    exact this ⟨s, hs⟩
  rw [e2, BitVec.ushiftRight_eq', BitVec.getLsbD_ushiftRight, BitVec.toNat_ofNat, Nat.mod_eq_of_lt (by omega)]
  rfl
theorem bL_ne {x : Int64} : x &&& 1 = 0 ↔ bL x 0 = false := by
  constructor
  · intro h
    have := congrArg (fun z => bL z 0) h
    simp only [bL_and, bL_1, bL_0] at this
    simpa using this
  · intro h
    refine bL_ext fun i _ => ?_
    rw [bL_and, bL_1, bL_0]
    by_cases e : i = 0
    · subst e
      rw [h]
      rfl
    · rw [decide_eq_false e, Bool.and_false]
/-- all of the wanted are in it -/
theorem bL_inc {x w : Int64} : x &&& w = w ↔ ∀ i, i < 64 → bL w i = true → bL x i = true := by
  constructor
  · intro h i _ hw
    rw [← h, bL_and, Bool.and_eq_true] at hw
    exact hw.1
  · intro h
    refine bL_ext fun i hi => ?_
    rw [bL_and]
    cases e : bL w i with
    | false => rw [Bool.and_false]
    | true => rw [h i hi e]; rfl
