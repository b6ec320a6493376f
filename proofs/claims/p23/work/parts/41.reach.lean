/-! what the reference's table 'most' holds: of each set of works the greatest sum by which those who are left can do just these -/
def okA (W : Nat) (fx : Nat → Int) (p t : Nat) : Prop := ∀ w, w < W → fx w = -1 ∨ (t.testBit w = true ↔ fx w = (p : Int))
def gvS (g : Nat → Int) : Nat → Nat → Int
  | 0, _ => 0
  | w + 1, t => gvS g w t + (if t.testBit w = true then g w else 0)
/-- works, lists of sets and their lengths, gains, who is left, who is fixed -/
abbrev rD : Type := Nat × (Nat → Nat → Nat) × (Nat → Nat) × (Nat → Nat → Int) × Nat
abbrev dW (D : rD) : Nat := D.1
abbrev dL (D : rD) : Nat → Nat → Nat := D.2.1
abbrev dN (D : rD) : Nat → Nat := D.2.2.1
abbrev dG (D : rD) : Nat → Nat → Int := D.2.2.2.1
abbrev dLf (D : rD) : Nat := D.2.2.2.2
/-- the people below p can do just the set t, with the sum v -/
def Rch (D : rD) (fx : Nat → Int) : Nat → Nat → Int → Prop
  | 0, t, v => t = 0 ∧ v = 0
  | p + 1, t, v => ((dLf D).testBit p = true ∧ ∃ s u k, k < dN D p ∧ s < 2 ^ dW D ∧ okA (dW D) fx p (dL D p k) ∧ s &&& dL D p k = 0 ∧ s ||| dL D p k = t ∧ Rch D fx p s u ∧ v = u + gvS (dG D p) (dW D) (dL D p k)) ∨ ((dLf D).testBit p = false ∧ Rch D fx p t v)
def Best (C : Nat → Int → Prop) (W : Nat) (f : Nat → Int) : Prop := ∀ t, t < 2 ^ W → (f t = -1 ∧ ∀ v, ¬ C t v) ∨ (0 ≤ f t ∧ C t (f t) ∧ ∀ v, C t v → v ≤ f t)
theorem Best.of {C C' : Nat → Int → Prop} {W : Nat} {f : Nat → Int} (h1 : ∀ t v, C t v → C' t v) (h2 : ∀ t v, C' t v → ∃ v', C t v' ∧ v ≤ v') (h : Best C W f) : Best C' W f := by
  intro t ht
  rcases h t ht with ⟨a, b⟩ | ⟨a, b, c⟩
  · refine Or.inl ⟨a, fun v hv => ?_⟩
    obtain ⟨v', hv', -⟩ := h2 t v hv
    exact b v' hv'
  · refine Or.inr ⟨a, h1 _ _ b, fun v hv => ?_⟩
    obtain ⟨v', hv', hle⟩ := h2 t v hv
    exact Int.le_trans hle (c v' hv')
theorem Best.same {C C' : Nat → Int → Prop} {W : Nat} {f : Nat → Int} (h1 : ∀ t v, C' t v ↔ C t v) (h : Best C W f) : Best C' W f := h.of (fun t v hv => (h1 t v).mpr hv) (fun t v hv => ⟨v, (h1 t v).mp hv, Int.le_refl _⟩)
theorem Best.eq {C : Nat → Int → Prop} {W : Nat} {f f' : Nat → Int} (h1 : ∀ t, t < 2 ^ W → f' t = f t) (h : Best C W f) : Best C W f' := by
  intro t ht
  rw [h1 t ht]
  exact h t ht
/-- one candidate more -/
theorem Best.more {C C' : Nat → Int → Prop} {W t0 : Nat} {v0 : Int} {f f' : Nat → Int} (h1 : ∀ t v, C' t v ↔ (C t v ∨ (t = t0 ∧ v = v0))) (h0 : 0 ≤ v0) (h : Best C W f) (hf : ∀ t, t < 2 ^ W → f' t = if t = t0 ∧ f t < v0 then v0 else f t) : Best C' W f' := by
  intro t ht
  rw [hf t ht]
  by_cases e : t = t0
  · subst e
    by_cases e2 : f t < v0
    · rw [if_pos ⟨rfl, e2⟩]
      refine Or.inr ⟨h0, (h1 _ _).mpr (Or.inr ⟨rfl, rfl⟩), fun v hv => ?_⟩
      rcases (h1 _ _).mp hv with hv | ⟨-, hv⟩
      · rcases h t ht with ⟨a, b⟩ | ⟨a, b, c⟩
        · exact absurd hv (b v)
        · have := c v hv
          omega
      · omega
    · rw [if_neg (fun h => e2 h.2)]
      rcases h t ht with ⟨a, b⟩ | ⟨a, b, c⟩
      · omega
      · refine Or.inr ⟨a, (h1 _ _).mpr (Or.inl b), fun v hv => ?_⟩
        rcases (h1 _ _).mp hv with hv | ⟨-, hv⟩
        · exact c v hv
        · omega
  · rw [if_neg (fun h => e h.1)]
    rcases h t ht with ⟨a, b⟩ | ⟨a, b, c⟩
    · refine Or.inl ⟨a, fun v hv => ?_⟩
      rcases (h1 _ _).mp hv with hv | ⟨hv, -⟩
      · exact b v hv
      · exact e hv
    · refine Or.inr ⟨a, (h1 _ _).mpr (Or.inl b), fun v hv => ?_⟩
      rcases (h1 _ _).mp hv with hv | ⟨hv, -⟩
      · exact c v hv
      · exact absurd hv e
/-- candidates of a person, out of a table f: of lists before the k-th, and of the k-th with sets below s -/
def Cnd (D : rD) (fx : Nat → Int) (f : Nat → Int) (p k s : Nat) (t : Nat) (v : Int) : Prop := ∃ s' k', (k' < k ∨ (k' = k ∧ s' < s)) ∧ s' < 2 ^ dW D ∧ okA (dW D) fx p (dL D p k') ∧ f s' ≠ -1 ∧ s' &&& dL D p k' = 0 ∧ s' ||| dL D p k' = t ∧ v = f s' + gvS (dG D p) (dW D) (dL D p k')
theorem Cnd.none {D : rD} {fx f : Nat → Int} {p t : Nat} {v : Int} : ¬ Cnd D fx f p 0 0 t v := by
  rintro ⟨s', k', h | ⟨-, h⟩, -⟩
  · exact absurd h (Nat.not_lt_zero _)
  · exact absurd h (Nat.not_lt_zero _)
theorem Cnd.wrap {D : rD} {fx f : Nat → Int} {p k s t : Nat} {v : Int} (hs : 2 ^ dW D ≤ s) : Cnd D fx f p (k + 1) 0 t v ↔ Cnd D fx f p k s t v := by
  constructor
  · rintro ⟨s', k', h, h2, h3⟩
    refine ⟨s', k', ?_, h2, h3⟩
    rcases h with h | ⟨-, h⟩
    · by_cases e : k' = k
      · exact Or.inr ⟨e, by omega⟩
      · exact Or.inl (by omega)
    · exact absurd h (Nat.not_lt_zero _)
  · rintro ⟨s', k', h, h2, h3⟩
    refine ⟨s', k', Or.inl ?_, h2, h3⟩
    rcases h with h | ⟨h, -⟩ <;> omega
theorem Cnd.skip {D : rD} {fx f : Nat → Int} {p k t : Nat} {v : Int} (hn : ¬ okA (dW D) fx p (dL D p k)) : Cnd D fx f p (k + 1) 0 t v ↔ Cnd D fx f p k 0 t v := by
  constructor
  · rintro ⟨s', k', h, h2, h3, h4⟩
    refine ⟨s', k', ?_, h2, h3, h4⟩
    rcases h with h | ⟨-, h⟩
    · by_cases e : k' = k
      · subst e
        exact absurd h3 hn
      · exact Or.inl (by omega)
    · exact absurd h (Nat.not_lt_zero _)
  · rintro ⟨s', k', h, h2, h3⟩
    refine ⟨s', k', Or.inl ?_, h2, h3⟩
    rcases h with h | ⟨-, h⟩ <;> omega
theorem Cnd.pass {D : rD} {fx f : Nat → Int} {p k s t : Nat} {v : Int} (hn : f s = -1 ∨ ¬ s &&& dL D p k = 0) : Cnd D fx f p k (s + 1) t v ↔ Cnd D fx f p k s t v := by
  constructor
  · rintro ⟨s', k', h, h2, h3, h4, h5, h6⟩
    refine ⟨s', k', ?_, h2, h3, h4, h5, h6⟩
    rcases h with h | ⟨h, h7⟩
    · exact Or.inl h
    · subst h
      by_cases e : s' = s
      · subst e
        rcases hn with hn | hn
        · exact absurd hn h4
        · exact absurd h5 hn
      · exact Or.inr ⟨rfl, by omega⟩
  · rintro ⟨s', k', h, h2⟩
    refine ⟨s', k', ?_, h2⟩
    rcases h with h | ⟨h, h7⟩
    · exact Or.inl h
    · exact Or.inr ⟨h, by omega⟩
theorem Cnd.more {D : rD} {fx f : Nat → Int} {p k s t : Nat} {v : Int} (hs : s < 2 ^ dW D) (ho : okA (dW D) fx p (dL D p k)) (hf : f s ≠ -1) (hd : s &&& dL D p k = 0) : Cnd D fx f p k (s + 1) t v ↔ (Cnd D fx f p k s t v ∨ (t = s ||| dL D p k ∧ v = f s + gvS (dG D p) (dW D) (dL D p k))) := by
  constructor
  · rintro ⟨s', k', h, h2, h3, h4, h5, h6, h7⟩
    by_cases e : k' = k ∧ s' = s
    · obtain ⟨rfl, rfl⟩ := e
      exact Or.inr ⟨h6.symm, h7⟩
    · refine Or.inl ⟨s', k', ?_, h2, h3, h4, h5, h6, h7⟩
      rcases h with h | ⟨h, h8⟩
      · exact Or.inl h
      · exact Or.inr ⟨h, by have : s' ≠ s := fun e2 => e ⟨h, e2⟩
                            omega⟩
  · rintro (⟨s', k', h, h2⟩ | ⟨h, h2⟩)
    · refine ⟨s', k', ?_, h2⟩
      rcases h with h | ⟨h, h7⟩
      · exact Or.inl h
      · exact Or.inr ⟨h, by omega⟩
    · exact ⟨s, k, Or.inr ⟨rfl, Nat.lt_succ_self _⟩, hs, ho, hf, hd, h.symm, h2⟩
/-- a person's candidates, once all are seen, are what can be reached with him -/
theorem Best.next {D : rD} {fx f f' : Nat → Int} {p : Nat} (hl : (dLf D).testBit p = true) (h : Best (Rch D fx p) (dW D) f) (h' : Best (Cnd D fx f p (dN D p) 0) (dW D) f') : Best (Rch D fx (p + 1)) (dW D) f' := by
  refine h'.of (fun t v hv => ?_) (fun t v hv => ?_)
  · obtain ⟨s, k, hk, hs, ho, hf, hd, ht, hv⟩ := hv
    have hk : k < dN D p := by
      rcases hk with hk | ⟨-, hk⟩
      · exact hk
      · exact absurd hk (Nat.not_lt_zero _)
    rcases h s hs with ⟨a, -⟩ | ⟨-, b, -⟩
    · exact absurd a hf
    · exact Or.inl ⟨hl, s, f s, k, hk, hs, ho, hd, ht, b, hv⟩
  · rcases hv with ⟨-, s, u, k, hk, hs, ho, hd, ht, hr, hv⟩ | ⟨hb, -⟩
    · rcases h s hs with ⟨-, b⟩ | ⟨a, b, c⟩
      · exact absurd hr (b u)
      · refine ⟨f s + gvS (dG D p) (dW D) (dL D p k), ⟨s, k, Or.inl hk, hs, ho, by omega, hd, ht, rfl⟩, ?_⟩
        have := c u hr
        omega
    · rw [hl] at hb
      cases hb
theorem Best.pass {D : rD} {fx f : Nat → Int} {p : Nat} (hl : (dLf D).testBit p = false) (h : Best (Rch D fx p) (dW D) f) : Best (Rch D fx (p + 1)) (dW D) f := by
  refine h.same (fun t v => ⟨fun hv => ?_, fun hv => Or.inr ⟨hl, hv⟩⟩)
  rcases hv with ⟨hb, -⟩ | ⟨-, hr⟩
  · rw [hl] at hb
    cases hb
  · exact hr
theorem Best.zero {D : rD} {fx f : Nat → Int} (h : ∀ t, t < 2 ^ dW D → f t = if t = 0 then 0 else -1) : Best (Rch D fx 0) (dW D) f := by
  intro t ht
  rw [h t ht]
  by_cases e : t = 0
  · rw [if_pos e]
    refine Or.inr ⟨Int.le_refl _, ⟨e, rfl⟩, fun v hv => ?_⟩
    have := hv.2
    omega
  · rw [if_neg e]
    exact Or.inl ⟨rfl, fun v hv => e hv.1⟩
/-! who does a work -/
def fxU (fx : Nat → Int) (w : Nat) (q : Int) : Nat → Int := fun x => if x = w then q else fx x
theorem okA.less {W w p t : Nat} {fx : Nat → Int} {q : Int} (hw : fx w = -1) (h : okA W (fxU fx w q) p t) : okA W fx p t := by
  intro x hx
  by_cases e : x = w
  · subst e
    exact Or.inl hw
  · have := h x hx
    rw [fxU, if_neg e] at this
    exact this
theorem okA.with {W w p t : Nat} {fx : Nat → Int} {q : Int} (h : okA W fx p t) (hq : t.testBit w = true ↔ q = (p : Int)) : okA W (fxU fx w q) p t := by
  intro x hx
  by_cases e : x = w
  · subst e
    rw [fxU, if_pos rfl]
    exact Or.inr hq
  · rw [fxU, if_neg e]
    exact h x hx
theorem Rch.less {D : rD} {fx : Nat → Int} {w : Nat} {q : Int} (hw : fx w = -1) : ∀ {p t : Nat} {v : Int}, Rch D (fxU fx w q) p t v → Rch D fx p t v
  | 0, _, _, h => h
  | p + 1, t, v, h => by
    rcases h with ⟨hl, s, u, k, hk, hs, ho, hd, ht, hr, hv⟩ | ⟨hl, hr⟩
    · exact Or.inl ⟨hl, s, u, k, hk, hs, ho.less hw, hd, ht, Rch.less hw hr, hv⟩
    · exact Or.inr ⟨hl, Rch.less hw hr⟩
theorem bit_or {s q t : Nat} (h : s ||| q = t) (w : Nat) : t.testBit w = (s.testBit w || q.testBit w) := by rw [← h, Nat.testBit_or]
theorem bit_and {s q : Nat} (h : s &&& q = 0) (w : Nat) : (s.testBit w && q.testBit w) = false := by rw [← Nat.testBit_and, h, Nat.zero_testBit]
/-- nobody of those below p does w: it may be fixed to anybody else -/
theorem Rch.free {D : rD} {fx : Nat → Int} {w : Nat} {q : Int} : ∀ {p t : Nat} {v : Int}, (p : Int) ≤ q → t.testBit w = false → Rch D fx p t v → Rch D (fxU fx w q) p t v
  | 0, _, _, _, _, h => h
  | p + 1, t, v, hq, hb, h => by
    rcases h with ⟨hl, s, u, k, hk, hs, ho, hd, ht, hr, hv⟩ | ⟨hl, hr⟩
    · have h1 := bit_or ht w
      rw [hb] at h1
      have h2 := Bool.or_eq_false_iff.mp h1.symm
      exact Or.inl ⟨hl, s, u, k, hk, hs, ho.with ⟨fun h => absurd (h2.2.symm.trans h) (by decide), fun h => by omega⟩, hd, ht, Rch.free (by omega) h2.1 hr, hv⟩
    · exact Or.inr ⟨hl, Rch.free (by omega) hb hr⟩
/-- somebody of those below p does w -/
theorem Rch.some {D : rD} {fx : Nat → Int} {w : Nat} : ∀ {p t : Nat} {v : Int}, t.testBit w = true → Rch D fx p t v → ∃ p0, p0 < p ∧ (dLf D).testBit p0 = true ∧ Rch D (fxU fx w (p0 : Int)) p t v
  | 0, t, _, hb, h => by
    rw [h.1, Nat.zero_testBit] at hb
    cases hb
  | p + 1, t, v, hb, h => by
    rcases h with ⟨hl, s, u, k, hk, hs, ho, hd, ht, hr, hv⟩ | ⟨hl, hr⟩
    · have h1 := bit_or ht w
      have h2 := bit_and hd w
      cases e : (dL D p k).testBit w with
      | true =>
        rw [e, Bool.and_true] at h2
        exact ⟨p, Nat.lt_succ_self _, hl, Or.inl ⟨hl, s, u, k, hk, hs, ho.with ⟨fun _ => rfl, fun _ => e⟩, hd, ht, Rch.free (Int.le_refl _) h2 hr, hv⟩⟩
      | false =>
        rw [hb, e, Bool.or_false] at h1
        obtain ⟨p0, g1, g2, g3⟩ := Rch.some h1.symm hr
        exact ⟨p0, by omega, g2, Or.inl ⟨hl, s, u, k, hk, hs, ho.with ⟨fun h => absurd (e.symm.trans h) (by decide), fun h => by omega⟩, hd, ht, g3, hv⟩⟩
    · obtain ⟨p0, g1, g2, g3⟩ := Rch.some hb hr
      exact ⟨p0, by omega, g2, Or.inr ⟨hl, g3⟩⟩
/-- a doer is found for a work that is in the set -/
theorem found_in {D : rD} {fx f : Nat → Int} {w p t : Nat} (hw : fx w = -1) (ht : t < 2 ^ dW D) (hb : t.testBit w = true) (h : Best (Rch D fx p) (dW D) f) (hf : f t ≠ -1) : ∃ p0, p0 < p ∧ (dLf D).testBit p0 = true ∧ ∀ f', Best (Rch D (fxU fx w (p0 : Int)) p) (dW D) f' → f' t = f t := by
  rcases h t ht with ⟨a, -⟩ | ⟨a, b, c⟩
  · exact absurd a hf
  · obtain ⟨p0, g1, g2, g3⟩ := Rch.some hb b
    refine ⟨p0, g1, g2, fun f' h' => ?_⟩
    rcases h' t ht with ⟨-, y⟩ | ⟨x, y, z⟩
    · exact absurd g3 (y _)
    · have h1 := z _ g3
      have h2 := c _ (Rch.less hw y)
      omega
/-- the greatest of a table, not below 0 -/
def gre (f : Nat → Int) : Nat → Int
  | 0 => 0
  | n + 1 => if gre f n < f n then f n else gre f n
theorem gre_ge (f : Nat → Int) : ∀ n, 0 ≤ gre f n
  | 0 => Int.le_refl _
  | n + 1 => by
    have := gre_ge f n
    unfold gre
    split <;> omega
theorem gre_le (f : Nat → Int) : ∀ n t, t < n → f t ≤ gre f n
  | 0, _, h => absurd h (Nat.not_lt_zero _)
  | n + 1, t, h => by
    unfold gre
    by_cases e : t = n
    · subst e
      split <;> omega
    · have := gre_le f n t (by omega)
      split <;> omega
theorem gre_at (f : Nat → Int) : ∀ n, gre f n = 0 ∨ ∃ t, t < n ∧ gre f n = f t
  | 0 => Or.inl rfl
  | n + 1 => by
    unfold gre
    split
    · exact Or.inr ⟨n, Nat.lt_succ_self _, rfl⟩
    · rcases gre_at f n with h | ⟨t, h1, h2⟩
      · exact Or.inl h
      · exact Or.inr ⟨t, by omega, h2⟩
/-- with a work fixed, no sum is greater -/
theorem gre_less {D : rD} {fx f f' : Nat → Int} {w p : Nat} {q : Int} (hw : fx w = -1) (h : Best (Rch D fx p) (dW D) f) (h' : Best (Rch D (fxU fx w q) p) (dW D) f') : gre f' (2 ^ dW D) ≤ gre f (2 ^ dW D) := by
  rcases gre_at f' (2 ^ dW D) with e | ⟨t, ht, e⟩
  · rw [e]
    exact gre_ge _ _
  · rw [e]
    rcases h' t ht with ⟨a, -⟩ | ⟨a, b, -⟩
    · have := gre_ge f (2 ^ dW D)
      omega
    · rcases h t ht with ⟨-, y⟩ | ⟨-, -, z⟩
      · exact absurd (Rch.less hw b) (y _)
      · have h1 := z _ (Rch.less hw b)
        have h2 := gre_le f (2 ^ dW D) t ht
        omega
/-- a doer of a work, or nobody: by somebody the greatest sum stays what it was -/
theorem found_gre {D : rD} {fx f : Nat → Int} {w p : Nat} {q : Int} (hw : fx w = -1) (hq : (p : Int) ≤ q) (h : Best (Rch D fx p) (dW D) f) : (∃ p0, p0 < p ∧ (dLf D).testBit p0 = true ∧ ∀ f', Best (Rch D (fxU fx w (p0 : Int)) p) (dW D) f' → gre f' (2 ^ dW D) = gre f (2 ^ dW D)) ∨ (∀ f', Best (Rch D (fxU fx w q) p) (dW D) f' → gre f' (2 ^ dW D) = gre f (2 ^ dW D)) := by
  have up : ∀ (q' : Int) (t : Nat) (f' : Nat → Int), t < 2 ^ dW D → gre f (2 ^ dW D) = f t → Rch D (fxU fx w q') p t (f t) → Best (Rch D (fxU fx w q') p) (dW D) f' → gre f' (2 ^ dW D) = gre f (2 ^ dW D) := by
    intro q' t f' ht e hr h'
    have h1 := gre_less hw h h'
    rcases h' t ht with ⟨-, y⟩ | ⟨-, -, z⟩
    · exact absurd hr (y _)
    · have h2 := z _ hr
      have h3 := gre_le f' (2 ^ dW D) t ht
      omega
  rcases gre_at f (2 ^ dW D) with e | ⟨t, ht, e⟩
  · refine Or.inr (fun f' h' => ?_)
    have h1 := gre_less hw h h'
    have h2 := gre_ge f' (2 ^ dW D)
    omega
  · rcases h t ht with ⟨a, -⟩ | ⟨a, b, c⟩
    · have := gre_ge f (2 ^ dW D)
      omega
    · cases hb : t.testBit w with
      | true =>
        obtain ⟨p0, g1, g2, g3⟩ := Rch.some hb b
        exact Or.inl ⟨p0, g1, g2, fun f' h' => up _ t f' ht e g3 h'⟩
      | false => exact Or.inr (fun f' h' => up _ t f' ht e (Rch.free hq hb b) h')
