/-! TWO CONTRACTS of one method are one: a run has one end, and its memory stands for one heap -/
def smeM (M1 M2 : aM) : Prop := ∃ (G : aG) (U : State), aW G SHF M1 U U.heap ∧ aW G SHF M2 U U.heap
theorem sme_f {M1 M2 : aM} (h : smeM M1 M2) {i ci k : Nat} {r : vw_C} (hi : SHF.2[i]? = some (.inl ci)) (hr : vwCl[ci]? = some r) (hk : k < r.2.2) : ∃ b, sv b M1 i k (tyO ci k) = sv b M2 i k (tyO ci k) := by
  obtain ⟨G, U, h1, h2⟩ := h
  obtain ⟨r1, a1, cell, c1, -, -, c4⟩ := h1.2 i _ hi
  obtain ⟨r2, b1, cell2, d1, -, -, d4⟩ := h2.2 i _ hi
  cases a1.symm.trans hr
  cases b1.symm.trans hr
  cases c1.symm.trans d1
  exact ⟨G.1, Option.some.inj ((c4 k hk).symm.trans (d4 k hk))⟩
theorem sme_a {M1 M2 : aM} (h : smeM M1 M2) {i k n : Nat} {ty : FieldType} (hi : SHF.2[i]? = some (.inr (ty, n))) (hk : k < n) : ∃ b, sv b M1 i k ty = sv b M2 i k ty := by
  obtain ⟨G, U, h1, h2⟩ := h
  obtain ⟨cA, -, c2⟩ := h1.2 i _ hi
  obtain ⟨cB, -, d2⟩ := h2.2 i _ hi
  have e : arrV cA n (fun k => sv G.1 M1 i k ty) = arrV cB n (fun k => sv G.1 M2 i k ty) := Option.some.inj (c2.symm.trans d2)
  have e1 := arrV_read cA (fun k => sv G.1 M1 i k ty) hk
  have e2 := arrV_read cB (fun k => sv G.1 M2 i k ty) hk
  exact ⟨G.1, Option.some.inj (e1.symm.trans ((congrArg (fun c => c.slots[k]?) e).trans e2))⟩
def isIt : FieldType → Bool
  | .int => true
  | .byte => true
  | .boolean => true
  | _ => false
theorem sv_int {b i k : Nat} {M1 M2 : aM} {ty : FieldType} (ht : isIt ty = true) (h : sv b M1 i k ty = sv b M2 i k ty) : M1.1 i k = M2.1 i k := by
  cases ty <;> first
    | exact Value.int.inj h
    | cases ht
theorem sme_fI {M1 M2 : aM} (h : smeM M1 M2) {i ci k : Nat} {r : vw_C} (hi : SHF.2[i]? = some (.inl ci)) (hr : vwCl[ci]? = some r) (hk : k < r.2.2) (ht : isIt (tyO ci k) = true) : M1.1 i k = M2.1 i k := (sme_f h hi hr hk).elim (fun _ e => sv_int ht e)
theorem sme_aI {M1 M2 : aM} (h : smeM M1 M2) {i k n : Nat} {ty : FieldType} (hi : SHF.2[i]? = some (.inr (ty, n))) (ht : isIt ty = true) (hk : k < n) : M1.1 i k = M2.1 i k := (sme_a h hi hk).elim (fun _ e => sv_int ht e)
theorem sme_aJ {M1 M2 : aM} (h : smeM M1 M2) {i k n : Nat} (hi : SHF.2[i]? = some (.inr (.long, n))) (hk : k < n) : M1.2.1 i k = M2.2.1 i k := (sme_a h hi hk).elim (fun _ e => Value.long.inj e)
theorem AC.joinI {l : aL} {id kc ks : Nat} {av : List Value} {M : aM} {Q1 Q2 : Int32 → aM → Prop} (h1 : AC l (pI pg id) (fcI M Q1) kc ks av SHF M) (h2 : AC l (pI pg id) (fcI M Q2) kc ks av SHF M) : AC l (pI pg id) (fcI M (fun y M' => Q2 y M' ∧ ∃ M1, Q1 y M1 ∧ smeM M1 M')) kc ks av SHF M := by
  intro G hΓ p e a1 a2 a3 s m args below b4 b5 b6 b7
  obtain ⟨n, o, c1, c2, c3, c4⟩ := h1 G hΓ p e a1 a2 a3 s m args below b4 b5 b6 b7
  obtain ⟨n', o', d1, d2, d3, d4⟩ := h2 G hΓ p e a1 a2 a3 s m args below b4 b5 b6 b7
  have en : n = n' := by
    rcases Nat.lt_trichotomy n n' with h | h | h
    · exact absurd (d1 n h) c3.not_within
    · exact h
    · exact absurd (c1 n' h) d3.not_within
  subst en
  have eo := c3.outcome_unique d3
  subst eo
  refine ⟨n, o, d1, d2, d3, ?_⟩
  rcases c4 with ⟨⟨v, sh1, M1, e1, e2, e3, e4⟩, e5⟩ | ⟨q, -, E, ce, L, ⟨sh1, M1, f1, -⟩, -⟩
  · rcases d4 with ⟨⟨v', sh2, M2, g1, g2, g3, g4⟩, g5⟩ | ⟨q, -, E, ce, L, ⟨sh2, M2, f1, -⟩, -⟩
    · obtain ⟨rfl, e6, y, e7, e8⟩ := e2
      obtain ⟨rfl, g6, y', g7, g8⟩ := g2
      cases e7
      cases g7
      have ey : y = y' := by
        have z := e1.symm.trans g1
        have z2 : (Outcome.returned (some (Value.int y)) : Outcome) = .returned (some (Value.int y')) := z
        injection z2 with z3
        injection z3 with z4
        exact Value.int.inj z4
      subst ey
      exact Or.inl ⟨⟨_, SHF, M2, g1, ⟨rfl, g6, y, rfl, g8, M1, e8, G, _, e3, g3⟩, g3, g4⟩, g5⟩
    · obtain ⟨-, -, y, h, -⟩ := f1
      cases h
  · obtain ⟨-, -, y, h, -⟩ := f1
    cases h
/-- a stretch of memory that a contract doesn't write -/
theorem wr_p {W : sW} (f : Nat → Bool) (h : (W.1.all (fun b => !f b) && W.2.all (fun b => !f b.1)) = true) {a k : Nat} (ha : f a = true) : wrW W a k = false := by
  rw [Bool.and_eq_true] at h
  unfold wrW
  rw [Bool.or_eq_false_iff]
  refine ⟨?_, ?_⟩
  · rw [List.any_eq_false]
    intro b hb e
    have h1 := List.all_eq_true.mp h.1 b hb
    rw [Nat.eq_of_beq_eq_true e, ha] at h1
    cases h1
  · rw [List.any_eq_false]
    intro b hb e
    have h1 := List.all_eq_true.mp h.2 b hb
    rw [Bool.and_eq_true] at e
    rw [Nat.eq_of_beq_eq_true e.1, ha] at h1
    cases h1
theorem parS_f {u : Nat → Nat} {n : Nat} : ∀ {d p : Nat} {H : HS} {f : Flt}, parS u n d H p = .inl f → 1 ≤ f.1 ∧ f.1 ≤ 5
  | 0, _, _, _, h => by cases h
  | d + 1, p, H, f, h => by
    have h : (if tK u n p = 0 then .inr H else bnd (linS u n H p) fun a => parS u n d a.1 a.2) = Sum.inl f := h
    split at h
    · cases h
    · rcases bnd_f h with h | ⟨a, -, h⟩
      · exact linS_f h
      · exact parS_f h
theorem nI_z {k : Nat} (h : 1 ≤ k) (h5 : k ≤ 5) : ¬ nI k = 0 := fun e => by
  have := nI_injN (b := 0) (by omega) (by decide) e
  omega
/-- the house that the object holds, and how its memory stands -/
def hoC (H : HS) (M : aM) : Prop := (JR RR M ∧ cHo 4 H M) ∨ (JR RRS M ∧ cHo 17 H M)
theorem hoC_J {H : HS} {M : aM} (h : hoC H M) : JX M := h.imp And.left And.left
