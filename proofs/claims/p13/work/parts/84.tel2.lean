/-! the helpers and the reference by their answers -/
theorem AC.joinG {l : aL} {id kc ks : Nat} {av : List Value} {M : aM} {Q1 Q2 : Int32 → aM → Prop} (h1 : AC l (pI pg id) (gcI Q1) kc ks av SHF M) (h2 : AC l (pI pg id) (gcI Q2) kc ks av SHF M) {Q : Int32 → aM → Prop} (hq : ∀ y M' M1, Q2 y M' → Q1 y M1 → smeM M1 M' → Q y M') : AC l (pI pg id) (gcI Q) kc ks av SHF M := by
  intro G hΓ p e a1 a2 a3 s m args below b4 b5 b6 b7
  obtain ⟨n, o, c1, c2, c3, c4⟩ := h1 G hΓ p e a1 a2 a3 s m args below b4 b5 b6 b7
  obtain ⟨n', o', d1, d2, d3, d4⟩ := h2 G hΓ p e a1 a2 a3 s m args below b4 b5 b6 b7
  have en : n = n' := by
    rcases Nat.lt_trichotomy n n' with h | h | h
    · exact absurd (d1 n h) c3.not_within
    · exact h
    · exact absurd (c1 n' h) d3.not_within
  subst en
  have eo := c3.outcome_unique d3
  subst eo
  refine ⟨n, o, d1, d2, d3, ?_⟩
  rcases c4 with ⟨⟨v, sh1, M1, e1, e2, e3, e4⟩, e5⟩ | ⟨q, -, E, ce, L, ⟨sh1, M1, f1, -⟩, -⟩
  · rcases d4 with ⟨⟨v', sh2, M2, g1, g2, g3, g4⟩, g5⟩ | ⟨q, -, E, ce, L, ⟨sh2, M2, f1, -⟩, -⟩
    · obtain ⟨rfl, y, e7, e8⟩ := e2
      obtain ⟨rfl, y', g7, g8⟩ := g2
      cases e7
      cases g7
      have ey : y = y' := by
        have z := e1.symm.trans g1
        have z2 : (Outcome.returned (some (Value.int y)) : Outcome) = .returned (some (Value.int y')) := z
        injection z2 with z3
        injection z3 with z4
        exact Value.int.inj z4
      subst ey
      exact Or.inl ⟨⟨_, SHF, M2, g1, ⟨rfl, y, rfl, hq y M2 M1 g8 e8 ⟨G, _, e3, g3⟩⟩, g3, g4⟩, g5⟩
    · obtain ⟨-, y, h, -⟩ := f1
      cases h
  · obtain ⟨-, y, h, -⟩ := f1
    cases h
theorem ACH.joinG {l : aL} {id kc ks : Nat} {av : List Value} {M : aM} {hh : List (Nat × Nat × Nat × Nat)} {Q1 Q2 : Int32 → aM → Prop} (h1 : ACH l (pI pg id) hh (gcI Q1) kc ks av SHF M) (h2 : ACH l (pI pg id) hh (gcI Q2) kc ks av SHF M) {Q : Int32 → aM → Prop} (hq : ∀ y M' M1, Q2 y M' → Q1 y M1 → smeM M1 M' → Q y M') : ACH l (pI pg id) hh (gcI Q) kc ks av SHF M := by
  intro G hΓ p e a1 a2 a3 s m args below b4 b5 b6 b7
  obtain ⟨n, o, c1, c2, c3, c4⟩ := h1 G hΓ p e a1 a2 a3 s m args below b4 b5 b6 b7
  obtain ⟨n', o', d1, d2, d3, d4⟩ := h2 G hΓ p e a1 a2 a3 s m args below b4 b5 b6 b7
  have en : n = n' := by
    rcases Nat.lt_trichotomy n n' with h | h | h
    · exact absurd (d1 n h) c3.not_within
    · exact h
    · exact absurd (c1 n' h) d3.not_within
  subst en
  have eo := c3.outcome_unique d3
  subst eo
  refine ⟨n, o, d1, d2, d3, ?_⟩
  rcases c4 with ⟨⟨v, sh1, M1, e1, e2, e3, e4⟩, e5⟩ | ⟨q, -, E, ce, L, ⟨sh1, M1, f1, -⟩, -⟩
  · rcases d4 with ⟨⟨v', sh2, M2, g1, g2, g3, g4⟩, g5⟩ | ⟨q, -, E, ce, L, ⟨sh2, M2, f1, -⟩, -⟩
    · obtain ⟨rfl, y, e7, e8⟩ := e2
      obtain ⟨rfl, y', g7, g8⟩ := g2
      cases e7
      cases g7
      have ey : y = y' := by
        have z := e1.symm.trans g1
        have z2 : (Outcome.returned (some (Value.int y)) : Outcome) = .returned (some (Value.int y')) := z
        injection z2 with z3
        injection z3 with z4
        exact Value.int.inj z4
      subst ey
      exact Or.inl ⟨⟨_, SHF, M2, g1, ⟨rfl, y, rfl, hq y M2 M1 g8 e8 ⟨G, _, e3, g3⟩⟩, g3, g4⟩, g5⟩
    · obtain ⟨-, y, h, -⟩ := f1
      cases h
  · obtain ⟨-, y, h, -⟩ := f1
    cases h
theorem LJ_RM {u : Nat → Nat} {s : Nat} {H : HS} {M : aM} (h : LJ u s H M) : ∀ e ∈ RM, M.2.2 e.1 e.2.1 = e.2.2 := (hoC_J h.2.2.1).elim (fun h e he => rgR_ok h.2 (okR_RR.1 e he)) (fun h e he => rgR_ok h.2 (okR_RRS.1 e he))
