/-! THE CALENDAR: begun, been; its picture -/
theorem AC.joinV {l : aL} {id kc ks : Nat} {av : List Value} {M : aM} {Q1 Q2 : aM → Prop} (h1 : AC l (pI pg id) (fcV M Q1) kc ks av SHF M) (h2 : AC l (pI pg id) (fcV M Q2) kc ks av SHF M) : AC l (pI pg id) (fcV M (fun M' => Q2 M' ∧ ∃ M1, Q1 M1 ∧ smeM M1 M')) kc ks av SHF M := by
  intro G hΓ p e a1 a2 a3 s m args below b4 b5 b6 b7
  obtain ⟨n, o, c1, c2, c3, c4⟩ := h1 G hΓ p e a1 a2 a3 s m args below b4 b5 b6 b7
  obtain ⟨n', o', d1, d2, d3, d4⟩ := h2 G hΓ p e a1 a2 a3 s m args below b4 b5 b6 b7
  have en : n = n' := by
    rcases Nat.lt_trichotomy n n' with h | h | h
    · exact absurd (d1 n h) c3.not_within
    · exact h
    · exact absurd (c1 n' h) d3.not_within
  subst en
  have eo := c3.outcome_unique d3
  subst eo
  refine ⟨n, o, d1, d2, d3, ?_⟩
  rcases c4 with ⟨⟨v, sh1, M1, e1, e2, e3, e4⟩, e5⟩ | ⟨q, -, E, ce, L, ⟨sh1, M1, f1, -⟩, -⟩
  · rcases d4 with ⟨⟨v', sh2, M2, g1, g2, g3, g4⟩, g5⟩ | ⟨q, -, E, ce, L, ⟨sh2, M2, f1, -⟩, -⟩
    · obtain ⟨rfl, e6, e7, e8⟩ := e2
      obtain ⟨rfl, g6, g7, g8⟩ := g2
      exact Or.inl ⟨⟨v', SHF, M2, g1, ⟨rfl, g6, g7, g8, M1, e8, G, _, e3, g3⟩, g3, g4⟩, g5⟩
    · obtain ⟨-, -, h, -⟩ := f1
      cases h
  · obtain ⟨-, -, h, -⟩ := f1
    cases h
theorem JR_set {R : sR} {M : aM} {a k : Nat} {q : iI} {x : Int32} (h : JR R M) (h1 : wcF R.1 a k q = true) (hx : inI x q) : JR R (aset M a k (.int x)) := by
  have := J_setF (R := R) (W := ([], [(a, k)])) (M0 := M) (a := a) (k := k) ⟨h.1, h.2, fun _ _ _ => rfl, rfl⟩ h1 (by show (false || (Nat.beq a a && Nat.beq k k || false)) = true; rw [Nat.beq_refl, Nat.beq_refl]; rfl) hx
  exact ⟨this.1, this.2.1⟩
theorem JR_sea {R : sR} {M : aM} {a k : Nat} {q : iI} {x : Int32} (h : JR R M) (h1 : wcA R.1 a q = true) (hx : inI x q) : JR R (aset M a k (.int x)) := by
  have := J_setA (R := R) (W := ([a], [])) (M0 := M) (a := a) (k := k) ⟨h.1, h.2, fun _ _ _ => rfl, rfl⟩ h1 (by show (Nat.beq a a || false) = true; rw [Nat.beq_refl]; rfl) hx
  exact ⟨this.1, this.2.1⟩
theorem z_200 : (Int16.ofInt 200).toInt32 = nI 200 := by decide
theorem z_60 : (Int8.ofInt 60).toInt32 = nI 60 := by decide
theorem JR_nI {R : sR} {M : aM} {a k m : Nat} (h : JR R M) (h1 : rgF R.1 a k = some (0, (m : Int))) : ∃ v, v ≤ m ∧ M.1 a k = nI v := by
  have g := rgF_ok h.1 h1
  have g1 := g.1
  have g2 := g.2
  simp only at g1 g2
  exact ⟨(M.1 a k).toInt.toNat, by omega, nI_self g1⟩
def cKa : Option Nat → aM → Prop
  | none, M => M.1 49 0 = 0 ∧ M.1 49 1 = 0
  | some n, M => M.1 49 0 = 1 ∧ M.1 49 1 = nI n ∧ n ≤ 200
def cKb : Option Nat → aM → Prop
  | none, M => M.1 53 0 = 0
  | some n, M => M.1 53 0 = 1 ∧ M.1 53 1 = nI n ∧ n ≤ 200
def mKa : Option Nat → aM → Prop
  | none, M => M.1 58 51 = Int32.ofInt (-1)
  | some n, M => M.1 58 51 = nI n ∧ n ≤ 200
def mKb : Option Nat → aM → Prop
  | none, M => M.1 58 57 = 0
  | some n, M => M.1 58 57 = 1 ∧ M.1 58 58 = nI n ∧ n ≤ 200
theorem cKa_eq {a : Option Nat} {M M' : aM} (h : cKa a M) (h0 : M'.1 49 0 = M.1 49 0) (h1 : M'.1 49 1 = M.1 49 1) : cKa a M' := by
  cases a with
  | none => exact ⟨h0.trans h.1, h1.trans h.2⟩
  | some n => exact ⟨h0.trans h.1, h1.trans h.2.1, h.2.2⟩
theorem cKb_eq {a : Option Nat} {M M' : aM} (h : cKb a M) (h0 : M'.1 53 0 = M.1 53 0) (h1 : M'.1 53 1 = M.1 53 1) : cKb a M' := by
  cases a with
  | none => exact h0.trans h
  | some n => exact ⟨h0.trans h.1, h1.trans h.2.1, h.2.2⟩
theorem mKa_eq {a : Option Nat} {M M' : aM} (h : mKa a M) (h0 : M'.1 58 51 = M.1 58 51) : mKa a M' := by
  cases a with
  | none => exact h0.trans h
  | some n => exact ⟨h0.trans h.1, h.2⟩
theorem mKb_eq {a : Option Nat} {M M' : aM} (h : mKb a M) (h0 : M'.1 58 57 = M.1 58 57) (h1 : M'.1 58 58 = M.1 58 58) : mKb a M' := by
  cases a with
  | none => exact h0.trans h
  | some n => exact ⟨h0.trans h.1, h1.trans h.2.1, h.2.2⟩
section CALC
variable {l : aL} {M : aM} {x y : Int32}
theorem stp49_c (hl0 : l.1.stackTraces = false) : AC l (pI pg 13) (fcV M (fun M' => M' = aset (aset M 49 0 (.int (Int32.ofInt 0))) 49 1 (.int (Int32.ofInt 0)))) 0 0 [.ref 49] SHF M := by
  refine fw_of hl0 ⟨by decide +kernel, by decide +kernel, by decide +kernel⟩ rfl ?_
  exact stp49_0 ⟨rfl, rfl, rfl, rfl⟩
theorem stp53_c (hl0 : l.1.stackTraces = false) : AC l (pI pg 13) (fcV M (fun M' => M' = aset (aset M 53 0 (.int (Int32.ofInt 0))) 53 1 (.int (Int32.ofInt 0)))) 0 0 [.ref 53] SHF M := by
  refine fw_of hl0 ⟨by decide +kernel, by decide +kernel, by decide +kernel⟩ rfl ?_
  exact stp53_0 ⟨rfl, rfl, rfl, rfl⟩
theorem lrs_c (hl0 : l.1.stackTraces = false) : AC l (pI pg 22) (fcV M (fun M' => M' = aset (aset M 40 2 (.int ((Int8.ofInt (-2)).toInt32))) 40 3 (.int ((Int8.ofInt (-2)).toInt32)))) 0 0 [.ref 40] SHF M := by
  refine fw_of hl0 ⟨by decide +kernel, by decide +kernel, by decide +kernel⟩ rfl ?_
  exact lrs_0 ⟨rfl, rfl, rfl, rfl⟩
theorem grs_c (hl0 : l.1.stackTraces = false) : AC l (pI pg 23) (fcV M (fun M' => M' = aset M 45 2 (.int (Int32.ofInt 0)))) 0 0 [.ref 45] SHF M := by
  refine fw_of hl0 ⟨by decide +kernel, by decide +kernel, by decide +kernel⟩ rfl ?_
  exact grs_0 ⟨rfl, rfl, rfl, rfl⟩
theorem plo_c (hl0 : l.1.stackTraces = false) : AC l (pI pg 104) (fcI M (fun _ M' => M' = M)) 0 0 [.int y] SHF M := by
  refine fw_of hl0 ⟨by decide +kernel, by decide +kernel, by decide +kernel⟩ rfl ?_
  exact plo_0 ⟨rfl, rfl, _, rfl, rfl⟩
theorem din_c (hl0 : l.1.stackTraces = false) : AC l (pI pg 112) (fcI M (fun _ M' => M' = M)) 0 0 [.int x, .int y] SHF M := by
  refine fw_of hl0 ⟨by decide +kernel, by decide +kernel, by decide +kernel⟩ rfl ?_
  exact din_0 (fun _ M' => M' = M) (plo_c hl0) (fun y1 M1 e1 q1 _ => ⟨rfl, e1, _, rfl, q1⟩) (fun y1 M1 e1 q1 _ => ⟨rfl, e1, _, rfl, q1⟩)
theorem fil51_c (hl0 : l.1.stackTraces = false) : AC l (pI pg 12) (fcV M (fun M' => ∀ b k, b ≠ 51 → M'.1 b k = M.1 b k)) 0 0 [.ref 51, .int x] SHF M := by
  refine fw_of hl0 ⟨by decide +kernel, by decide +kernel, by decide +kernel⟩ rfl ?_
  refine fil51_0 hl0 ?_
  have loop : ∀ (d i : Nat) (M1 : aM), i + d = 48 → M1.2.2 = M.2.2 → (∀ b k, b ≠ 51 → M1.1 b k = M.1 b k) → AW l (pI pg 12) (fcV M (fun M' => ∀ b k, b ≠ 51 → M'.1 b k = M.1 b k)) 0 0 5 [(0, .ref 51), (1, .int x), (2, .int (nI i)), (3, .int (Int32.ofNat 48))] [] SHF M1 := by
    intro d
    induction d with
    | zero =>
      intro i M1 hi e2 h2
      have hi2 : i = 48 := by omega
      subst hi2
      exact fil51_5 hl0 (fun _ => ⟨rfl, e2, rfl, h2⟩) (fun h => absurd (show (Int32.ofNat 48 : Int32) ≤ nI 48 by decide) h) (fun h => absurd (show (Int32.ofNat 48 : Int32) ≤ nI 48 by decide) h)
    | succ d ih =>
      intro i M1 hi e2 h2
      refine fil51_5 hl0 (fun h => ?_) (fun _ => vp_in_nI (by omega) (by decide)) (fun _ => ?_)
      · exact ge_no (a := i) (b := 48) (by omega) (by decide) h
      · rw [show nI i + Int32.ofInt 1 = nI (i + 1) from nI_1 _]
        refine ih (i + 1) _ (by omega) e2 (fun b k hb => ?_)
        rw [set_1, if_neg hb]
        exact h2 b k hb
  exact loop 48 0 M (by omega) rfl (fun _ _ _ => rfl)
theorem bec53_c (hl0 : l.1.stackTraces = false) (hW : ∀ e ∈ RW, M.2.2 e.1 e.2.1 = e.2.2) (hz : M.1 49 0 = 0 ∨ M.1 49 0 = 1) : AC l (pI pg 36) (fcV M (fun M' => M'.1 53 0 = M.1 49 0 ∧ M'.1 53 1 = M.1 49 1 ∧ (∀ k, M'.1 49 k = M.1 49 k) ∧ ∀ k, M'.1 57 k = M.1 57 k)) 0 0 [.ref 53, .ref 49] SHF M := by
  refine fw_of hl0 ⟨by decide +kernel, by decide +kernel, by decide +kernel⟩ rfl ?_
  exact bec53_0 hW hz ⟨rfl, rfl, rfl, rfl, rfl, fun _ => rfl, fun _ => rfl⟩
theorem bec49_c (hl0 : l.1.stackTraces = false) (hW : ∀ e ∈ RW, M.2.2 e.1 e.2.1 = e.2.2) (hz : M.1 53 0 = 0 ∨ M.1 53 0 = 1) : AC l (pI pg 36) (fcV M (fun M' => M'.1 49 0 = M.1 53 0 ∧ M'.1 49 1 = M.1 53 1 ∧ (∀ k, M'.1 53 k = M.1 53 k) ∧ ∀ k, M'.1 57 k = M.1 57 k)) 0 0 [.ref 49, .ref 53] SHF M := by
  refine fw_of hl0 ⟨by decide +kernel, by decide +kernel, by decide +kernel⟩ rfl ?_
  exact bec49_0 hW hz ⟨rfl, rfl, rfl, rfl, rfl, fun _ => rfl, fun _ => rfl⟩
/-- image and restore of the class: the answer, and what becomes of calendar and picture -/
def imO (a b : Option Nat) : Bool × Option Nat := match a with
  | none => (false, b)
  | some n => (true, some n)
def QIm (z : Int32) (o : Bool) : Prop := (o = true ∧ z = Int32.ofInt 1) ∨ (o = false ∧ z = Int32.ofInt 0)
theorem cKa_01 {a : Option Nat} (h : cKa a M) : M.1 49 0 = 0 ∨ M.1 49 0 = 1 := by
  cases a with
  | none => exact Or.inl h.1
  | some n => exact Or.inr h.1
theorem cKb_01 {a : Option Nat} (h : cKb a M) : M.1 53 0 = 0 ∨ M.1 53 0 = 1 := by
  cases a with
  | none => exact Or.inl h
  | some n => exact Or.inr h.1
theorem img_c (hl0 : l.1.stackTraces = false) (hW : ∀ e ∈ RW, M.2.2 e.1 e.2.1 = e.2.2) {a b : Option Nat} (ha : cKa a M) (hb : cKb b M) {kc ks : Nat} : AC l (pI pg 35) (fcI M (fun z M' => QIm z (imO a b).1 ∧ cKa a M' ∧ cKb (imO a b).2 M' ∧ ∀ k, M'.1 57 k = M.1 57 k)) kc ks [.ref 0] SHF M := by
  refine fw_of hl0 ⟨by decide +kernel, by decide +kernel, by decide +kernel⟩ rfl ?_
  cases a with
  | none =>
    exact img_0 hW (fun _ => True) (fun h => absurd ha.1 h) (fun h => absurd ha.1 h) (fun _ => ⟨rfl, rfl, _, rfl, Or.inr ⟨rfl, rfl⟩, ha, hb, fun _ => rfl⟩)
  | some n =>
    refine img_0 hW _ (fun h => bec53_c hl0 hW (Or.inr ha.1)) (fun h M2 e2 q2 => ⟨rfl, e2, _, rfl, Or.inl ⟨rfl, rfl⟩, cKa_eq ha (q2.2.2.1 0) (q2.2.2.1 1), ⟨q2.1.trans ha.1, q2.2.1.trans ha.2.1, ha.2.2⟩, q2.2.2.2⟩) (fun h => ?_)
    rw [ha.1] at h
    exact absurd h (by decide)
theorem rst_c (hl0 : l.1.stackTraces = false) (hW : ∀ e ∈ RW, M.2.2 e.1 e.2.1 = e.2.2) {a b : Option Nat} (ha : cKa a M) (hb : cKb b M) {kc ks : Nat} : AC l (pI pg 37) (fcI M (fun z M' => QIm z (imO b a).1 ∧ cKb b M' ∧ cKa (imO b a).2 M' ∧ ∀ k, M'.1 57 k = M.1 57 k)) kc ks [.ref 0] SHF M := by
  refine fw_of hl0 ⟨by decide +kernel, by decide +kernel, by decide +kernel⟩ rfl ?_
  cases b with
  | none =>
    exact rst_0 hW (fun _ => True) (fun h => absurd hb h) (fun h => absurd hb h) (fun _ => ⟨rfl, rfl, _, rfl, Or.inr ⟨rfl, rfl⟩, hb, ha, fun _ => rfl⟩)
  | some n =>
    refine rst_0 hW _ (fun h => bec49_c hl0 hW (Or.inr hb.1)) (fun h M2 e2 q2 => ⟨rfl, e2, _, rfl, Or.inl ⟨rfl, rfl⟩, cKb_eq hb (q2.2.2.1 0) (q2.2.2.1 1), ⟨q2.1.trans hb.1, q2.2.1.trans hb.2.1, hb.2.2⟩, q2.2.2.2⟩) (fun h => ?_)
    rw [hb.1] at h
    exact absurd h (by decide)
/-- on: a wrong number; refused; or so many weeks have been -/
def onV : Option Nat → Nat → Option Nat
  | none, _ => none
  | some n, j => if n + j ≤ 200 then some (n + j) else none
def onO (a : Option Nat) (x : Int32) : Option (Option Nat) := if inN 61 x then some (onV a x.toNatClampNeg) else none
def PON (a : Option Nat) (x : Int32) (M : aM) : aP := fun r sh' M' => sh' = SHF ∧ ((onO a x = none ∧ r = .inr "java/lang/IllegalArgumentException" ∧ M' = M) ∨ (onO a x = some none ∧ r = .inl (some (.int (Int32.ofInt (-1)))) ∧ M' = aset M 57 2 (.int (M.1 57 2 + Int32.ofInt 1))) ∨ ∃ m, onO a x = some (some m) ∧ r = .inl (some (.int (nI m))) ∧ m ≤ 200 ∧ M'.1 49 0 = M.1 49 0 ∧ M'.1 49 1 = nI m ∧ (∀ k, M'.1 53 k = M.1 53 k) ∧ ∀ k, M'.1 57 k = M.1 57 k)
end CALC
section CALA
variable {l : aL} {M : aM} {x y : Int32}
theorem staa_c (hl0 : l.1.stackTraces = false) (hJ : JR RR M) : AC l (pI pg 34) (fcV M (fun M' => M'.1 49 0 = Int32.ofInt 1 ∧ M'.1 49 1 = Int32.ofInt 0 ∧ (∀ k, M'.1 53 k = M.1 53 k) ∧ ∀ k, M'.1 57 k = M.1 57 k)) 0 0 [.ref 49, .ref 4, .int x] SHF M := by
  refine fw_of hl0 ⟨by decide +kernel, by decide +kernel, by decide +kernel⟩ rfl ?_
  refine staa_0 hJ.2 hl0 _ (fil51_c hl0) (fun M1 e1 q1 => ⟨rfl, e1, rfl, ?_, ?_, fun k => ?_, fun k => ?_⟩)
  · show M1.1 49 0 = _
    exact q1 49 0 (by decide)
  · show M1.1 49 1 = _
    exact q1 49 1 (by decide)
  · show M1.1 53 k = _
    exact q1 53 k (by decide)
  · show M1.1 57 k = _
    exact q1 57 k (by decide)
theorem bega_c (hl0 : l.1.stackTraces = false) (hJ : JR RR M) {kc ks : Nat} : AC l (pI pg 33) (fcV M (fun M' => M'.1 49 0 = Int32.ofInt 1 ∧ M'.1 49 1 = Int32.ofInt 0 ∧ (∀ k, M'.1 53 k = M.1 53 k) ∧ ∀ k, M'.1 57 k = M.1 57 k)) kc ks [.ref 0, .int x] SHF M := by
  refine fw_of hl0 ⟨by decide +kernel, by decide +kernel, by decide +kernel⟩ rfl ?_
  exact bega_0 hJ.2 hl0 _ (staa_c hl0 hJ) (fun M1 e1 q1 => ⟨rfl, e1, rfl, q1⟩)
theorem seta_c (hl0 : l.1.stackTraces = false) (hJ : JR RR M) : AC l (pI pg 11) (fcV M (fun M' => M'.1 49 0 = 0 ∧ M'.1 49 1 = 0 ∧ M'.1 53 0 = 0)) 0 0 [.ref 0] SHF M := by
  refine fw_of hl0 ⟨by decide +kernel, by decide +kernel, by decide +kernel⟩ rfl ?_
  have nl : ∀ (M1 : aM) (q : Nat × Nat × iI), q ∈ ([] : List (Nat × Nat × iI)) → inI (M1.1 q.1 q.2.1) q.2.2 := fun _ _ h => absurd h List.not_mem_nil
  have j5 : ∀ {M1 : aM}, Jm RR (eW en_70) M M1 → JR RR (aset (aset (aset (aset (aset M1 0 9 (.int (Int32.ofInt (-1)))) 49 0 (.int (Int32.ofInt 0))) 49 1 (.int (Int32.ofInt 0))) 53 0 (.int (Int32.ofInt 0))) 53 1 (.int (Int32.ofInt 0))) := fun {M1} q => JR_set (q := (0, 200)) (JR_set (q := (0, 1)) (JR_set (q := (0, 200)) (JR_set (q := (0, 1)) (JR_set (q := fullI) ⟨q.1, q.2.1⟩ (by decide +kernel) (in_full _)) (by decide +kernel) ⟨by decide, by decide⟩) (by decide +kernel) ⟨by decide, by decide⟩) (by decide +kernel) ⟨by decide, by decide⟩) (by decide +kernel) ⟨by decide, by decide⟩
  refine seta_0 hJ.2 hl0 (fun M' => Jm RR (eW en_70) M M') (fcV_of (e := en_70) hl0 (ok_70 hl0 (ctA_RR hl0) _ List.mem_cons_self) rfl rfl rfl rfl ⟨rfl, ⟨_, rfl, by decide, by decide⟩, trivial⟩ hJ (nl M)) (fun M1 M' => M' = aset (aset (aset M1 0 9 (.int (Int32.ofInt (-1)))) 49 0 (.int (Int32.ofInt 0))) 49 1 (.int (Int32.ofInt 0))) (fun M1 e1 q1 => stp49_c hl0) (fun M1 M3 M' => M' = aset (aset M3 53 0 (.int (Int32.ofInt 0))) 53 1 (.int (Int32.ofInt 0))) (fun M1 e1 q1 M3 e3 q3 => stp53_c hl0) (fun M1 M3 M5 M' => Jm RR (eW en_71) M5 M') (fun M1 e1 q1 M3 e3 q3 M5 e5 q5 => ?_) (fun M1 M3 M5 M7 M' => Jm RR (eW en_74) M7 M') (fun M1 e1 q1 M3 e3 q3 M5 e5 q5 M7 e7 q7 => ?_) (fun M1 M3 M5 M7 M9 M' => Jm RR (eW en_76) M9 M') (fun M1 e1 q1 M3 e3 q3 M5 e5 q5 M7 e7 q7 M9 e9 q9 => ?_) (fun M1 M3 M5 M7 M9 M11 M' => M' = aset (aset M11 40 2 (.int ((Int8.ofInt (-2)).toInt32))) 40 3 (.int ((Int8.ofInt (-2)).toInt32))) (fun M1 e1 q1 M3 e3 q3 M5 e5 q5 M7 e7 q7 M9 e9 q9 M11 e11 q11 => lrs_c hl0) (fun M1 M3 M5 M7 M9 M11 M13 M' => M' = aset M13 45 2 (.int (Int32.ofInt 0))) (fun M1 e1 q1 M3 e3 q3 M5 e5 q5 M7 e7 q7 M9 e9 q9 M11 e11 q11 M13 e13 q13 => grs_c hl0) (fun M1 e1 q1 M3 e3 q3 M5 e5 q5 M7 e7 q7 M9 e9 q9 M11 e11 q11 M13 e13 q13 M15 e15 q15 => ?_)
  · subst q3
    subst q5
    exact fcV_of (e := en_71) hl0 (ok_71 hl0 (ctA_RR hl0) _ List.mem_cons_self) rfl rfl rfl rfl ⟨rfl, rfl, trivial⟩ (j5 q1) (nl _)
  · exact fcV_of (e := en_74) hl0 (ok_74 hl0 (ctA_RR hl0) _ List.mem_cons_self) rfl rfl rfl rfl ⟨rfl, rfl, rfl, rfl, trivial⟩ ⟨q7.1, q7.2.1⟩ (nl _)
  · exact fcV_of (e := en_76) hl0 (ok_76 hl0 (ctA_RR hl0) _ List.mem_cons_self) rfl rfl rfl rfl ⟨rfl, rfl, trivial⟩ ⟨q9.1, q9.2.1⟩ (nl _)
  · have f : ∀ a k, wrW (eW en_71) a k = false → wrW (eW en_74) a k = false → wrW (eW en_76) a k = false → M11.1 a k = M5.1 a k := fun a k w1 w2 w3 => (q11.2.2.1 a k w3).trans ((q9.2.2.1 a k w2).trans (q7.2.2.1 a k w1))
    have er : M15.2.2 = M.2.2 := e15.trans (e13.trans (e11.trans (e9.trans (e7.trans (e5.trans (e3.trans e1))))))
    subst q15
    subst q13
    subst q3
    subst q5
    refine ⟨rfl, er, rfl, ?_, ?_, ?_⟩
    · show M11.1 49 0 = 0
      rw [f 49 0 rfl rfl rfl]
      rfl
    · show M11.1 49 1 = 0
      rw [f 49 1 rfl rfl rfl]
      rfl
    · show M11.1 53 0 = 0
      rw [f 53 0 rfl rfl rfl]
      rfl
theorem liva_c (hl0 : l.1.stackTraces = false) (hJ : JR RR M) {b : Nat} (hb : b < 200) (h1 : M.1 49 1 = nI b) : AC l (pI pg 157) (fcV M (fun M' => M'.1 49 1 = nI (b + 1))) 0 0 [.ref 49, .ref 4, .ref 30, .ref 36] SHF M := by
  refine fw_of hl0 ⟨by decide +kernel, by decide +kernel, by decide +kernel⟩ rfl ?_
  have nl : ∀ (M1 : aM) (q : Nat × Nat × iI), q ∈ ([] : List (Nat × Nat × iI)) → inI (M1.1 q.1 q.2.1) q.2.2 := fun _ _ h => absurd h List.not_mem_nil
  have fin : ∀ (c w : Int32) (M1 : aM), JR RR M1 → M1.1 49 1 = nI b → M1.2.2 = M.2.2 → AW l (pI pg 157) (fcV M (fun M' => M'.1 49 1 = nI (b + 1))) 0 0 82 [(5, .int c), (4, .int w), (1, .ref 4), (0, .ref 49)] [] SHF M1 := by
    intro c w M1 j1 g1 e1
    refine liva_82 j1.2 hl0 (fun _ => ?_) (fun _ => ⟨rfl, e1, rfl, ?_⟩) (fun M' => Jm RR (eW en_51) M1 M') (fun _ => fcV_of (e := en_51) hl0 (ok_51 hl0 (ctA_RR hl0) _ List.mem_cons_self) rfl rfl rfl rfl ⟨rfl, rfl, trivial⟩ j1 (nl _)) (fun _ M4 e4 q4 => ?_) (fun _ M4 e4 q4 => ⟨rfl, e4.trans e1, rfl, ?_⟩)
    · rw [g1]
      exact vp_in_nI hb (by decide)
    · show M1.1 49 1 + Int32.ofInt 1 = nI (b + 1)
      rw [g1]
      exact nI_1 _
    · rw [q4.2.2.1 49 1 rfl, g1]
      exact vp_in_nI hb (by decide)
    · show M4.1 49 1 + Int32.ofInt 1 = nI (b + 1)
      rw [q4.2.2.1 49 1 rfl, g1]
      exact nI_1 _
  have loop : ∀ (c w : Int32) (n i : Nat) (M1 : aM), i + n = 8 → JR RR M1 → M1.1 49 1 = nI b → M1.2.2 = M.2.2 → AW l (pI pg 157) (fcV M (fun M' => M'.1 49 1 = nI (b + 1))) 0 0 32 [(6, .int (nI i)), (5, .int c), (4, .int w), (3, .ref 36), (2, .ref 30), (1, .ref 4), (0, .ref 49)] [] SHF M1 := by
    intro c w n
    induction n with
    | zero =>
      intro i M1 hi j1 g1 e1
      obtain ⟨wo, w8, hw⟩ := JR_nI (m := 8) j1 (show rgF RR.1 4 1 = some (0, 8) by decide +kernel)
      have yes : M1.1 4 1 ≤ nI i := by rw [hw, nI_leI (by omega) (by omega)]; omega
      exact liva_32 j1.2 hl0 (fun _ => fin c w M1 j1 g1 e1) (fun _ _ => True) (fun h => absurd yes h) (fun _ _ _ _ => True) (fun h => absurd yes h) (fun h => absurd yes h) (fun h => absurd yes h) (fun h => absurd yes h)
    | succ n ih =>
      intro i M1 hi j1 g1 e1
      obtain ⟨wo, w8, hw⟩ := JR_nI (m := 8) j1 (show rgF RR.1 4 1 = some (0, 8) by decide +kernel)
      obtain ⟨pe, p6, hp⟩ := JR_nI (m := 6) j1 (show rgF RR.1 4 0 = some (0, 6) by decide +kernel)
      refine liva_32 j1.2 hl0 (fun _ => fin c w M1 j1 g1 e1) (fun _ M' => M' = M1) (fun _ => din_c hl0) (fun y3 M3 y M' => hpV (M3.1 4 0) y3 = y ∧ M3 = M') (fun _ y3 M3 e3 q3 => ?_) (fun _ y3 M3 e3 q3 y5 M5 e5 q5 h7 => ?_) (fun _ y3 M3 e3 q3 y5 M5 e5 q5 h7 => ?_) (fun _ y3 M3 e3 q3 y5 M5 e5 q5 h7 => ?_)
      · subst q3
        exact hpeA_c hl0 (fun e he => j1.2 e (rk_RR e he))
      · obtain ⟨-, rfl⟩ := q5
        subst q3
        rw [show nI i + Int32.ofInt 1 = nI (i + 1) from nI_1 _]
        exact ih (i + 1) _ (by omega) j1 g1 e1
      · obtain ⟨rfl, rfl⟩ := q5
        subst q3
        rw [hp, hpV_x (by omega), Decidable.not_not] at h7
        have hy := inN_lt h7
        have em : y3 * (Int8.ofInt 8).toInt32 + nI i = nI (8 * y3.toNatClampNeg + i) := by
          conv => lhs; rw [inN_eq h7]
          rw [show (Int8.ofInt 8).toInt32 = nI 8 by decide, nI_mulN, nI_add, Nat.mul_comm]
        rw [em]
        exact vp_in_nI (by omega) (by decide)
      · obtain ⟨-, rfl⟩ := q5
        subst q3
        rw [show nI i + Int32.ofInt 1 = nI (i + 1) from nI_1 _]
        exact ih (i + 1) _ (by omega) (JR_sea (q := fullI) j1 (by decide +kernel) (in_full _)) g1 e1
  have lt : M.1 49 1 < (Int16.ofInt 200).toInt32 := by rw [h1, z_200, nI_ltI (by omega) (by decide)]; exact hb
  refine liva_0 hJ.2 hl0 (fun y M' => inI y (0, 7) ∧ Jm RR (eW en_49) M M') (fun _ => fcI_of (e := en_49) hl0 (ok_49 hl0 (ctA_RR hl0) _ List.mem_cons_self) rfl rfl rfl rfl ⟨rfl, rfl, trivial⟩ hJ (nl _)) (fun _ M2 y M' => inI y fullI ∧ Jm RR (eW en_50) M2 M') (fun _ y2 M2 e2 q2 => fcI_of (e := en_50) hl0 (ok_50 hl0 (ctA_RR hl0) _ List.mem_cons_self) rfl rfl rfl rfl ⟨rfl, rfl, rfl, rfl, ⟨y2, rfl, q2.1⟩, trivial⟩ ⟨q2.2.1, q2.2.2.1⟩ (nl _)) (fun _ y2 M2 e2 q2 y4 M4 e4 q4 => ?_) (fun h => absurd lt h)
  exact loop y4 y2 8 0 M4 (by decide) ⟨q4.2.1, q4.2.2.1⟩ (((q4.2.2.2.1 49 1 rfl).trans (q2.2.2.2.1 49 1 rfl)).trans h1) (e4.trans e2)
theorem onna_c (hl0 : l.1.stackTraces = false) (hJ : JR RR M) {a : Option Nat} (ha : cKa a M) : AC l (pI pg 156) (PON a x M) 2 12 [.ref 0, .int x] SHF M := by
  refine fw_of hl0 ⟨by decide +kernel, by decide +kernel, by decide +kernel⟩ rfl ?_
  have nl : ∀ (M1 : aM) (q : Nat × Nat × iI), q ∈ ([] : List (Nat × Nat × iI)) → inI (M1.1 q.1 q.2.1) q.2.2 := fun _ _ h => absurd h List.not_mem_nil
  have v2 : vp_in (Int32.ofInt 2) 3 := vp_in_nI (n := 2) (by decide) (by decide)
  have hz : (Int32.ofInt 2).toNatClampNeg = 2 := by decide
  have no : x < 0 ∨ ¬ x ≤ (Int8.ofInt 60).toInt32 → onO a x = none := fun h => by rw [onO, if_neg (inN_nop (m := 60) z_60 (by decide) h)]
  have yes : ¬ x < 0 → x ≤ (Int8.ofInt 60).toInt32 → inN 61 x := fun h1 h2 => inN_yes (m := 60) z_60 (by decide) h1 h2
  have loop : ∀ (b : Nat), a = some b → b + x.toNatClampNeg ≤ 200 → inN 61 x → ∀ (n j : Nat) (M1 : aM), j + n = x.toNatClampNeg → JR RR M1 → M1.1 49 1 = nI (b + j) → M1.1 49 0 = M.1 49 0 → (∀ k, M1.1 53 k = M.1 53 k) → (∀ k, M1.1 57 k = M.1 57 k) → AW l (pI pg 156) (PON a x M) 2 12 60 [(2, .int (nI j)), (1, .int x), (0, .ref 0)] [] SHF M1 := by
    intro b ab h2 hx n
    have hlt := inN_lt hx
    have oo : onO a x = some (some (b + x.toNatClampNeg)) := by
      rw [onO, if_pos hx, ab]
      show some (if b + x.toNatClampNeg ≤ 200 then _ else _) = _
      rw [if_pos h2]
    induction n with
    | zero =>
      intro j M1 hj j1 g1 g2 g3 g4
      have le : x ≤ nI j := by
        rw [inN_eq hx, nI_leI (by omega) (by omega)]
        omega
      refine onna_60 j1.2 hl0 (fun _ => ⟨rfl, Or.inr (Or.inr ⟨b + x.toNatClampNeg, oo, ?_, h2, g2, ?_, g3, g4⟩)⟩) (fun _ => True) (fun h => absurd le h) (fun h => absurd le h)
      · rw [g1, show j = x.toNatClampNeg by omega]
      · rw [g1, show j = x.toNatClampNeg by omega]
    | succ n ih =>
      intro j M1 hj j1 g1 g2 g3 g4
      have lt : ¬ x ≤ nI j := by
        rw [inN_eq hx, nI_leI (by omega) (by omega)]
        omega
      refine onna_60 j1.2 hl0 (fun h => absurd h lt) (fun M' => Jm RR (eW en_52) M1 M' ∧ ∃ M2, M2.1 49 1 = nI (b + j + 1) ∧ smeM M2 M') (fun _ => AC.joinV (liva_c hl0 j1 (by omega) g1) (fcV_of (e := en_52) hl0 (ok_52 hl0 (ctA_RR hl0) _ List.mem_cons_self) rfl rfl rfl rfl ⟨rfl, rfl, rfl, rfl, trivial⟩ j1 (nl _))) (fun _ M3 e3 q3 => ?_)
      obtain ⟨q3, M2, q4, q5⟩ := q3
      rw [show nI j + Int32.ofInt 1 = nI (j + 1) from nI_1 _]
      refine ih (j + 1) M3 (by omega) ⟨q3.1, q3.2.1⟩ ((sme_fI q5 (i := 49) (ci := 8) (k := 1) rfl rfl (by decide) rfl).symm.trans q4) ((q3.2.2.1 49 0 rfl).trans g2) (fun k => (q3.2.2.1 53 k (wr_p (fun a => Nat.beq 53 a) (by decide +kernel) rfl)).trans (g3 k)) (fun k => (q3.2.2.1 57 k (wr_p (fun a => Nat.beq 57 a) (by decide +kernel) rfl)).trans (g4 k))
  refine onna_0 (kc := 1) (ks := 6) hJ.2 hl0 (fun h1 => ⟨rfl, Or.inl ⟨no (Or.inl h1), rfl, rfl⟩⟩) (fun _ _ _ => v2) (fun h1 h3 h4 => ⟨rfl, Or.inr (Or.inl ⟨?_, rfl, ?_⟩)⟩) (fun h1 h3 h4 h7 => ?_) (fun _ _ _ _ => v2) (fun h1 h3 h4 h7 => ⟨rfl, Or.inr (Or.inl ⟨?_, rfl, ?_⟩)⟩) (fun h1 h3 => ⟨rfl, Or.inl ⟨no (Or.inr h3), rfl, rfl⟩⟩)
  · rw [onO, if_pos (yes h1 h3)]
    cases a with
    | none => rfl
    | some n =>
      rw [ha.1] at h4
      exact absurd h4 (by decide)
  · rw [hz]
  · cases a with
    | none => exact absurd ha.1 h4
    | some n =>
      have hx := yes h1 h3
      have hlt := inN_lt hx
      have n2 := ha.2.2
      rw [ha.2.1, z_200] at h7
      have h7 : nI n + nI x.toNatClampNeg ≤ nI 200 := by
        rw [← inN_eq hx]
        exact h7
      rw [nI_add, nI_leI (by omega) (by decide)] at h7
      exact loop n rfl h7 hx x.toNatClampNeg 0 M (by omega) hJ ha.2.1 rfl (fun _ => rfl) (fun _ => rfl)
  · rw [onO, if_pos (yes h1 h3)]
    cases a with
    | none => rfl
    | some n =>
      have hx := yes h1 h3
      have hlt := inN_lt hx
      have n2 := ha.2.2
      show some (if n + x.toNatClampNeg ≤ 200 then _ else _) = _
      rw [if_neg]
      intro h8
      refine h7 ?_
      rw [ha.2.1, z_200]
      have : nI n + nI x.toNatClampNeg ≤ nI 200 := by
        rw [nI_add, nI_leI (by omega) (by decide)]
        exact h8
      rw [← inN_eq hx] at this
      exact this
  · rw [hz]
end CALA
section CALB
variable {l : aL} {M : aM} {x y : Int32}
theorem stab_c (hl0 : l.1.stackTraces = false) (hJ : JR RRS M) : AC l (pI pg 34) (fcV M (fun M' => M'.1 49 0 = Int32.ofInt 1 ∧ M'.1 49 1 = Int32.ofInt 0 ∧ (∀ k, M'.1 53 k = M.1 53 k) ∧ ∀ k, M'.1 57 k = M.1 57 k)) 0 0 [.ref 49, .ref 17, .int x] SHF M := by
  refine fw_of hl0 ⟨by decide +kernel, by decide +kernel, by decide +kernel⟩ rfl ?_
  refine stab_0 hJ.2 hl0 _ (fil51_c hl0) (fun M1 e1 q1 => ⟨rfl, e1, rfl, ?_, ?_, fun k => ?_, fun k => ?_⟩)
  · show M1.1 49 0 = _
    exact q1 49 0 (by decide)
  · show M1.1 49 1 = _
    exact q1 49 1 (by decide)
  · show M1.1 53 k = _
    exact q1 53 k (by decide)
  · show M1.1 57 k = _
    exact q1 57 k (by decide)
theorem begb_c (hl0 : l.1.stackTraces = false) (hJ : JR RRS M) {kc ks : Nat} : AC l (pI pg 33) (fcV M (fun M' => M'.1 49 0 = Int32.ofInt 1 ∧ M'.1 49 1 = Int32.ofInt 0 ∧ (∀ k, M'.1 53 k = M.1 53 k) ∧ ∀ k, M'.1 57 k = M.1 57 k)) kc ks [.ref 0, .int x] SHF M := by
  refine fw_of hl0 ⟨by decide +kernel, by decide +kernel, by decide +kernel⟩ rfl ?_
  exact begb_0 hJ.2 hl0 _ (stab_c hl0 hJ) (fun M1 e1 q1 => ⟨rfl, e1, rfl, q1⟩)
theorem setb_c (hl0 : l.1.stackTraces = false) (hJ : JR RRS M) : AC l (pI pg 11) (fcV M (fun M' => M'.1 49 0 = 0 ∧ M'.1 49 1 = 0 ∧ M'.1 53 0 = 0)) 0 0 [.ref 0] SHF M := by
  refine fw_of hl0 ⟨by decide +kernel, by decide +kernel, by decide +kernel⟩ rfl ?_
  have nl : ∀ (M1 : aM) (q : Nat × Nat × iI), q ∈ ([] : List (Nat × Nat × iI)) → inI (M1.1 q.1 q.2.1) q.2.2 := fun _ _ h => absurd h List.not_mem_nil
  have j5 : ∀ {M1 : aM}, Jm RRS (eW ens_70) M M1 → JR RRS (aset (aset (aset (aset (aset M1 0 9 (.int (Int32.ofInt (-1)))) 49 0 (.int (Int32.ofInt 0))) 49 1 (.int (Int32.ofInt 0))) 53 0 (.int (Int32.ofInt 0))) 53 1 (.int (Int32.ofInt 0))) := fun {M1} q => JR_set (q := (0, 200)) (JR_set (q := (0, 1)) (JR_set (q := (0, 200)) (JR_set (q := (0, 1)) (JR_set (q := fullI) ⟨q.1, q.2.1⟩ (by decide +kernel) (in_full _)) (by decide +kernel) ⟨by decide, by decide⟩) (by decide +kernel) ⟨by decide, by decide⟩) (by decide +kernel) ⟨by decide, by decide⟩) (by decide +kernel) ⟨by decide, by decide⟩
  refine setb_0 hJ.2 hl0 (fun M' => Jm RRS (eW ens_70) M M') (fcV_of (e := ens_70) hl0 (oks_70 hl0 (ctA_RRS hl0) _ List.mem_cons_self) rfl rfl rfl rfl ⟨rfl, ⟨_, rfl, by decide, by decide⟩, trivial⟩ hJ (nl M)) (fun M1 M' => M' = aset (aset (aset M1 0 9 (.int (Int32.ofInt (-1)))) 49 0 (.int (Int32.ofInt 0))) 49 1 (.int (Int32.ofInt 0))) (fun M1 e1 q1 => stp49_c hl0) (fun M1 M3 M' => M' = aset (aset M3 53 0 (.int (Int32.ofInt 0))) 53 1 (.int (Int32.ofInt 0))) (fun M1 e1 q1 M3 e3 q3 => stp53_c hl0) (fun M1 M3 M5 M' => Jm RRS (eW ens_71) M5 M') (fun M1 e1 q1 M3 e3 q3 M5 e5 q5 => ?_) (fun M1 M3 M5 M7 M' => Jm RRS (eW ens_74) M7 M') (fun M1 e1 q1 M3 e3 q3 M5 e5 q5 M7 e7 q7 => ?_) (fun M1 M3 M5 M7 M9 M' => Jm RRS (eW ens_76) M9 M') (fun M1 e1 q1 M3 e3 q3 M5 e5 q5 M7 e7 q7 M9 e9 q9 => ?_) (fun M1 M3 M5 M7 M9 M11 M' => M' = aset (aset M11 40 2 (.int ((Int8.ofInt (-2)).toInt32))) 40 3 (.int ((Int8.ofInt (-2)).toInt32))) (fun M1 e1 q1 M3 e3 q3 M5 e5 q5 M7 e7 q7 M9 e9 q9 M11 e11 q11 => lrs_c hl0) (fun M1 M3 M5 M7 M9 M11 M13 M' => M' = aset M13 45 2 (.int (Int32.ofInt 0))) (fun M1 e1 q1 M3 e3 q3 M5 e5 q5 M7 e7 q7 M9 e9 q9 M11 e11 q11 M13 e13 q13 => grs_c hl0) (fun M1 e1 q1 M3 e3 q3 M5 e5 q5 M7 e7 q7 M9 e9 q9 M11 e11 q11 M13 e13 q13 M15 e15 q15 => ?_)
  · subst q3
    subst q5
    exact fcV_of (e := ens_71) hl0 (oks_71 hl0 (ctA_RRS hl0) _ List.mem_cons_self) rfl rfl rfl rfl ⟨rfl, rfl, trivial⟩ (j5 q1) (nl _)
  · exact fcV_of (e := ens_74) hl0 (oks_74 hl0 (ctA_RRS hl0) _ List.mem_cons_self) rfl rfl rfl rfl ⟨rfl, rfl, rfl, rfl, trivial⟩ ⟨q7.1, q7.2.1⟩ (nl _)
  · exact fcV_of (e := ens_76) hl0 (oks_76 hl0 (ctA_RRS hl0) _ List.mem_cons_self) rfl rfl rfl rfl ⟨rfl, rfl, trivial⟩ ⟨q9.1, q9.2.1⟩ (nl _)
  · have f : ∀ a k, wrW (eW ens_71) a k = false → wrW (eW ens_74) a k = false → wrW (eW ens_76) a k = false → M11.1 a k = M5.1 a k := fun a k w1 w2 w3 => (q11.2.2.1 a k w3).trans ((q9.2.2.1 a k w2).trans (q7.2.2.1 a k w1))
    have er : M15.2.2 = M.2.2 := e15.trans (e13.trans (e11.trans (e9.trans (e7.trans (e5.trans (e3.trans e1))))))
    subst q15
    subst q13
    subst q3
    subst q5
    refine ⟨rfl, er, rfl, ?_, ?_, ?_⟩
    · show M11.1 49 0 = 0
      rw [f 49 0 rfl rfl rfl]
      rfl
    · show M11.1 49 1 = 0
      rw [f 49 1 rfl rfl rfl]
      rfl
    · show M11.1 53 0 = 0
      rw [f 53 0 rfl rfl rfl]
      rfl
theorem livb_c (hl0 : l.1.stackTraces = false) (hJ : JR RRS M) {b : Nat} (hb : b < 200) (h1 : M.1 49 1 = nI b) : AC l (pI pg 157) (fcV M (fun M' => M'.1 49 1 = nI (b + 1))) 0 0 [.ref 49, .ref 17, .ref 30, .ref 36] SHF M := by
  refine fw_of hl0 ⟨by decide +kernel, by decide +kernel, by decide +kernel⟩ rfl ?_
  have nl : ∀ (M1 : aM) (q : Nat × Nat × iI), q ∈ ([] : List (Nat × Nat × iI)) → inI (M1.1 q.1 q.2.1) q.2.2 := fun _ _ h => absurd h List.not_mem_nil
  have fin : ∀ (c w : Int32) (M1 : aM), JR RRS M1 → M1.1 49 1 = nI b → M1.2.2 = M.2.2 → AW l (pI pg 157) (fcV M (fun M' => M'.1 49 1 = nI (b + 1))) 0 0 82 [(5, .int c), (4, .int w), (1, .ref 17), (0, .ref 49)] [] SHF M1 := by
    intro c w M1 j1 g1 e1
    refine livb_82 j1.2 hl0 (fun _ => ?_) (fun _ => ⟨rfl, e1, rfl, ?_⟩) (fun M' => Jm RRS (eW ens_51) M1 M') (fun _ => fcV_of (e := ens_51) hl0 (oks_51 hl0 (ctA_RRS hl0) _ List.mem_cons_self) rfl rfl rfl rfl ⟨rfl, rfl, trivial⟩ j1 (nl _)) (fun _ M4 e4 q4 => ?_) (fun _ M4 e4 q4 => ⟨rfl, e4.trans e1, rfl, ?_⟩)
    · rw [g1]
      exact vp_in_nI hb (by decide)
    · show M1.1 49 1 + Int32.ofInt 1 = nI (b + 1)
      rw [g1]
      exact nI_1 _
    · rw [q4.2.2.1 49 1 rfl, g1]
      exact vp_in_nI hb (by decide)
    · show M4.1 49 1 + Int32.ofInt 1 = nI (b + 1)
      rw [q4.2.2.1 49 1 rfl, g1]
      exact nI_1 _
  have loop : ∀ (c w : Int32) (n i : Nat) (M1 : aM), i + n = 8 → JR RRS M1 → M1.1 49 1 = nI b → M1.2.2 = M.2.2 → AW l (pI pg 157) (fcV M (fun M' => M'.1 49 1 = nI (b + 1))) 0 0 32 [(6, .int (nI i)), (5, .int c), (4, .int w), (3, .ref 36), (2, .ref 30), (1, .ref 17), (0, .ref 49)] [] SHF M1 := by
    intro c w n
    induction n with
    | zero =>
      intro i M1 hi j1 g1 e1
      obtain ⟨wo, w8, hw⟩ := JR_nI (m := 8) j1 (show rgF RRS.1 17 1 = some (0, 8) by decide +kernel)
      have yes : M1.1 17 1 ≤ nI i := by rw [hw, nI_leI (by omega) (by omega)]; omega
      exact livb_32 j1.2 hl0 (fun _ => fin c w M1 j1 g1 e1) (fun _ _ => True) (fun h => absurd yes h) (fun _ _ _ _ => True) (fun h => absurd yes h) (fun h => absurd yes h) (fun h => absurd yes h) (fun h => absurd yes h)
    | succ n ih =>
      intro i M1 hi j1 g1 e1
      obtain ⟨wo, w8, hw⟩ := JR_nI (m := 8) j1 (show rgF RRS.1 17 1 = some (0, 8) by decide +kernel)
      obtain ⟨pe, p6, hp⟩ := JR_nI (m := 6) j1 (show rgF RRS.1 17 0 = some (0, 6) by decide +kernel)
      refine livb_32 j1.2 hl0 (fun _ => fin c w M1 j1 g1 e1) (fun _ M' => M' = M1) (fun _ => din_c hl0) (fun y3 M3 y M' => hpV (M3.1 17 0) y3 = y ∧ M3 = M') (fun _ y3 M3 e3 q3 => ?_) (fun _ y3 M3 e3 q3 y5 M5 e5 q5 h7 => ?_) (fun _ y3 M3 e3 q3 y5 M5 e5 q5 h7 => ?_) (fun _ y3 M3 e3 q3 y5 M5 e5 q5 h7 => ?_)
      · subst q3
        exact hpeB_c hl0 (fun e he => j1.2 e (rk_RRS e he))
      · obtain ⟨-, rfl⟩ := q5
        subst q3
        rw [show nI i + Int32.ofInt 1 = nI (i + 1) from nI_1 _]
        exact ih (i + 1) _ (by omega) j1 g1 e1
      · obtain ⟨rfl, rfl⟩ := q5
        subst q3
        rw [hp, hpV_x (by omega), Decidable.not_not] at h7
        have hy := inN_lt h7
        have em : y3 * (Int8.ofInt 8).toInt32 + nI i = nI (8 * y3.toNatClampNeg + i) := by
          conv => lhs; rw [inN_eq h7]
          rw [show (Int8.ofInt 8).toInt32 = nI 8 by decide, nI_mulN, nI_add, Nat.mul_comm]
        rw [em]
        exact vp_in_nI (by omega) (by decide)
      · obtain ⟨-, rfl⟩ := q5
        subst q3
        rw [show nI i + Int32.ofInt 1 = nI (i + 1) from nI_1 _]
        exact ih (i + 1) _ (by omega) (JR_sea (q := fullI) j1 (by decide +kernel) (in_full _)) g1 e1
  have lt : M.1 49 1 < (Int16.ofInt 200).toInt32 := by rw [h1, z_200, nI_ltI (by omega) (by decide)]; exact hb
  refine livb_0 hJ.2 hl0 (fun y M' => inI y (0, 7) ∧ Jm RRS (eW ens_49) M M') (fun _ => fcI_of (e := ens_49) hl0 (oks_49 hl0 (ctA_RRS hl0) _ List.mem_cons_self) rfl rfl rfl rfl ⟨rfl, rfl, trivial⟩ hJ (nl _)) (fun _ M2 y M' => inI y fullI ∧ Jm RRS (eW ens_50) M2 M') (fun _ y2 M2 e2 q2 => fcI_of (e := ens_50) hl0 (oks_50 hl0 (ctA_RRS hl0) _ List.mem_cons_self) rfl rfl rfl rfl ⟨rfl, rfl, rfl, rfl, ⟨y2, rfl, q2.1⟩, trivial⟩ ⟨q2.2.1, q2.2.2.1⟩ (nl _)) (fun _ y2 M2 e2 q2 y4 M4 e4 q4 => ?_) (fun h => absurd lt h)
  exact loop y4 y2 8 0 M4 (by decide) ⟨q4.2.1, q4.2.2.1⟩ (((q4.2.2.2.1 49 1 rfl).trans (q2.2.2.2.1 49 1 rfl)).trans h1) (e4.trans e2)
theorem onnb_c (hl0 : l.1.stackTraces = false) (hJ : JR RRS M) {a : Option Nat} (ha : cKa a M) : AC l (pI pg 156) (PON a x M) 2 12 [.ref 0, .int x] SHF M := by
  refine fw_of hl0 ⟨by decide +kernel, by decide +kernel, by decide +kernel⟩ rfl ?_
  have nl : ∀ (M1 : aM) (q : Nat × Nat × iI), q ∈ ([] : List (Nat × Nat × iI)) → inI (M1.1 q.1 q.2.1) q.2.2 := fun _ _ h => absurd h List.not_mem_nil
  have v2 : vp_in (Int32.ofInt 2) 3 := vp_in_nI (n := 2) (by decide) (by decide)
  have hz : (Int32.ofInt 2).toNatClampNeg = 2 := by decide
  have no : x < 0 ∨ ¬ x ≤ (Int8.ofInt 60).toInt32 → onO a x = none := fun h => by rw [onO, if_neg (inN_nop (m := 60) z_60 (by decide) h)]
  have yes : ¬ x < 0 → x ≤ (Int8.ofInt 60).toInt32 → inN 61 x := fun h1 h2 => inN_yes (m := 60) z_60 (by decide) h1 h2
  have loop : ∀ (b : Nat), a = some b → b + x.toNatClampNeg ≤ 200 → inN 61 x → ∀ (n j : Nat) (M1 : aM), j + n = x.toNatClampNeg → JR RRS M1 → M1.1 49 1 = nI (b + j) → M1.1 49 0 = M.1 49 0 → (∀ k, M1.1 53 k = M.1 53 k) → (∀ k, M1.1 57 k = M.1 57 k) → AW l (pI pg 156) (PON a x M) 2 12 60 [(2, .int (nI j)), (1, .int x), (0, .ref 0)] [] SHF M1 := by
    intro b ab h2 hx n
    have hlt := inN_lt hx
    have oo : onO a x = some (some (b + x.toNatClampNeg)) := by
      rw [onO, if_pos hx, ab]
      show some (if b + x.toNatClampNeg ≤ 200 then _ else _) = _
      rw [if_pos h2]
    induction n with
    | zero =>
      intro j M1 hj j1 g1 g2 g3 g4
      have le : x ≤ nI j := by
        rw [inN_eq hx, nI_leI (by omega) (by omega)]
        omega
      refine onnb_60 j1.2 hl0 (fun _ => ⟨rfl, Or.inr (Or.inr ⟨b + x.toNatClampNeg, oo, ?_, h2, g2, ?_, g3, g4⟩)⟩) (fun _ => True) (fun h => absurd le h) (fun h => absurd le h)
      · rw [g1, show j = x.toNatClampNeg by omega]
      · rw [g1, show j = x.toNatClampNeg by omega]
    | succ n ih =>
      intro j M1 hj j1 g1 g2 g3 g4
      have lt : ¬ x ≤ nI j := by
        rw [inN_eq hx, nI_leI (by omega) (by omega)]
        omega
      refine onnb_60 j1.2 hl0 (fun h => absurd h lt) (fun M' => Jm RRS (eW ens_52) M1 M' ∧ ∃ M2, M2.1 49 1 = nI (b + j + 1) ∧ smeM M2 M') (fun _ => AC.joinV (livb_c hl0 j1 (by omega) g1) (fcV_of (e := ens_52) hl0 (oks_52 hl0 (ctA_RRS hl0) _ List.mem_cons_self) rfl rfl rfl rfl ⟨rfl, rfl, rfl, rfl, trivial⟩ j1 (nl _))) (fun _ M3 e3 q3 => ?_)
      obtain ⟨q3, M2, q4, q5⟩ := q3
      rw [show nI j + Int32.ofInt 1 = nI (j + 1) from nI_1 _]
      refine ih (j + 1) M3 (by omega) ⟨q3.1, q3.2.1⟩ ((sme_fI q5 (i := 49) (ci := 8) (k := 1) rfl rfl (by decide) rfl).symm.trans q4) ((q3.2.2.1 49 0 rfl).trans g2) (fun k => (q3.2.2.1 53 k (wr_p (fun a => Nat.beq 53 a) (by decide +kernel) rfl)).trans (g3 k)) (fun k => (q3.2.2.1 57 k (wr_p (fun a => Nat.beq 57 a) (by decide +kernel) rfl)).trans (g4 k))
  refine onnb_0 (kc := 1) (ks := 6) hJ.2 hl0 (fun h1 => ⟨rfl, Or.inl ⟨no (Or.inl h1), rfl, rfl⟩⟩) (fun _ _ _ => v2) (fun h1 h3 h4 => ⟨rfl, Or.inr (Or.inl ⟨?_, rfl, ?_⟩)⟩) (fun h1 h3 h4 h7 => ?_) (fun _ _ _ _ => v2) (fun h1 h3 h4 h7 => ⟨rfl, Or.inr (Or.inl ⟨?_, rfl, ?_⟩)⟩) (fun h1 h3 => ⟨rfl, Or.inl ⟨no (Or.inr h3), rfl, rfl⟩⟩)
  · rw [onO, if_pos (yes h1 h3)]
    cases a with
    | none => rfl
    | some n =>
      rw [ha.1] at h4
      exact absurd h4 (by decide)
  · rw [hz]
  · cases a with
    | none => exact absurd ha.1 h4
    | some n =>
      have hx := yes h1 h3
      have hlt := inN_lt hx
      have n2 := ha.2.2
      rw [ha.2.1, z_200] at h7
      have h7 : nI n + nI x.toNatClampNeg ≤ nI 200 := by
        rw [← inN_eq hx]
        exact h7
      rw [nI_add, nI_leI (by omega) (by decide)] at h7
      exact loop n rfl h7 hx x.toNatClampNeg 0 M (by omega) hJ ha.2.1 rfl (fun _ => rfl) (fun _ => rfl)
  · rw [onO, if_pos (yes h1 h3)]
    cases a with
    | none => rfl
    | some n =>
      have hx := yes h1 h3
      have hlt := inN_lt hx
      have n2 := ha.2.2
      show some (if n + x.toNatClampNeg ≤ 200 then _ else _) = _
      rw [if_neg]
      intro h8
      refine h7 ?_
      rw [ha.2.1, z_200]
      have : nI n + nI x.toNatClampNeg ≤ nI 200 := by
        rw [nI_add, nI_leI (by omega) (by decide)]
        exact h8
      rw [← inN_eq hx] at this
      exact this
  · rw [hz]
end CALB
section CALA
variable {l : aL} {M : aM} {x y : Int32}
theorem cal39a (hl0 : l.1.stackTraces = false) (hJ : JR RR M) : AC l (pI pg 39) (fun r sh' M' => sh' = SHF ∧ ((r = .inr "java/lang/IllegalArgumentException" ∧ M' = M) ∨ ∃ y : Int32, r = .inl (some (.int y)) ∧ ((y = 0 ∧ M'.1 49 0 = 0 ∧ M'.1 49 1 = 0 ∧ M'.1 53 0 = 0) ∨ (¬ y = 0 ∧ (∀ k, M'.1 49 k = M.1 49 k) ∧ ∀ k, M'.1 53 k = M.1 53 k)))) 2 12 [.ref 0, .int x] SHF M := by
  refine fw_of hl0 ⟨by decide +kernel, by decide +kernel, by decide +kernel⟩ rfl ?_
  have nl : ∀ (M1 : aM) (q : Nat × Nat × iI), q ∈ ([] : List (Nat × Nat × iI)) → inI (M1.1 q.1 q.2.1) q.2.2 := fun _ _ h => absurd h List.not_mem_nil
  have r21 := rgF_ok hJ.1 (show rgF RR.1 2 1 = some (0, 800) by decide +kernel)
  have g2 := r21.2
  simp only at g2
  have rd : ¬ x < 0 → x ≤ M.1 2 1 → AC l (pI pg 45) (fcI M (fun y M' => inI y (0, 5) ∧ Jm RR (eW en_166) M M')) 0 0 [.ref 1, .ref 17, .int x] SHF M := by
    intro h1 h3
    rw [Int32.lt_iff_toInt_lt] at h1
    rw [Int32.le_iff_toInt_le] at h3
    have : (0 : Int32).toInt = 0 := by decide
    exact fcI_of (e := en_166) hl0 (all_RR hl0 _ List.mem_cons_self) rfl rfl rfl rfl ⟨rfl, rfl, ⟨x, rfl, by show (0 : Int) ≤ _; omega, by show _ ≤ (800 : Int); omega⟩, trivial⟩ hJ (nl _)
  have two : ∀ (M4 : aM), Jm RR (eW en_166) M M4 → JR RR (aset (aset M4 2 1 (.int (Int32.ofInt 0))) 0 13 (.int ((aset M4 2 1 (.int (Int32.ofInt 0))).1 1 2))) := fun M4 q => JR_set (q := ((-1), 800)) (JR_set (q := (0, 800)) ⟨q.1, q.2.1⟩ (by decide +kernel) ⟨by decide, by decide⟩) (by decide +kernel) (rgF_ok (M := M4) (a := 1) (k := 2) q.1 (show rgF RR.1 1 2 = some ((-1), 800) by decide +kernel) : inI (M4.1 1 2) ((-1), 800))
  have sw : ∀ (M5 : aM), JR RR M5 → JR RRS (aset (aset M5 0 1 (.ref 17)) 0 2 (.ref 4)) := fun M5 h5 => JR_swap (R := RR) (S := RRS) (p := 17 + 1) (q := 4 + 1) rfl (by decide +kernel) (by decide +kernel) (by decide +kernel) h5 rfl rfl
  refine s39a_0 (kc := 1) (ks := 6) hJ.2 (fun _ => ⟨rfl, Or.inl ⟨rfl, rfl⟩⟩) _ rd (fun _ M4 M' => M'.1 49 0 = 0 ∧ M'.1 49 1 = 0 ∧ M'.1 53 0 = 0) (fun h1 h3 y M4 e4 q4 h6 => setb_c hl0 (sw _ (two M4 q4.2))) (fun h1 h3 y M4 e4 q4 h6 M7 e7 q7 => ⟨rfl, Or.inr ⟨_, rfl, Or.inl ⟨rfl, q7⟩⟩⟩) (fun _ _ _ _ _ _ _ => vp_in_nI (n := 0) (by omega) (by decide)) (fun h1 h3 y M4 e4 q4 h6 => ⟨rfl, Or.inr ⟨_, rfl, Or.inr ⟨h6, fun k => ?_, fun k => ?_⟩⟩⟩) (fun _ _ => ⟨rfl, Or.inl ⟨rfl, rfl⟩⟩)
  · show M4.1 49 k = M.1 49 k
    exact q4.2.2.2.1 49 k (wr_p (fun a => Nat.beq 49 a) (by decide +kernel) rfl)
  · show M4.1 53 k = M.1 53 k
    exact q4.2.2.2.1 53 k (wr_p (fun a => Nat.beq 53 a) (by decide +kernel) rfl)
end CALA
section CALB
variable {l : aL} {M : aM} {x y : Int32}
theorem cal39b (hl0 : l.1.stackTraces = false) (hJ : JR RRS M) : AC l (pI pg 39) (fun r sh' M' => sh' = SHF ∧ ((r = .inr "java/lang/IllegalArgumentException" ∧ M' = M) ∨ ∃ y : Int32, r = .inl (some (.int y)) ∧ ((y = 0 ∧ M'.1 49 0 = 0 ∧ M'.1 49 1 = 0 ∧ M'.1 53 0 = 0) ∨ (¬ y = 0 ∧ (∀ k, M'.1 49 k = M.1 49 k) ∧ ∀ k, M'.1 53 k = M.1 53 k)))) 2 12 [.ref 0, .int x] SHF M := by
  refine fw_of hl0 ⟨by decide +kernel, by decide +kernel, by decide +kernel⟩ rfl ?_
  have nl : ∀ (M1 : aM) (q : Nat × Nat × iI), q ∈ ([] : List (Nat × Nat × iI)) → inI (M1.1 q.1 q.2.1) q.2.2 := fun _ _ h => absurd h List.not_mem_nil
  have r21 := rgF_ok hJ.1 (show rgF RRS.1 2 1 = some (0, 800) by decide +kernel)
  have g2 := r21.2
  simp only at g2
  have rd : ¬ x < 0 → x ≤ M.1 2 1 → AC l (pI pg 45) (fcI M (fun y M' => inI y (0, 5) ∧ Jm RRS (eW ens_166) M M')) 0 0 [.ref 1, .ref 4, .int x] SHF M := by
    intro h1 h3
    rw [Int32.lt_iff_toInt_lt] at h1
    rw [Int32.le_iff_toInt_le] at h3
    have : (0 : Int32).toInt = 0 := by decide
    exact fcI_of (e := ens_166) hl0 (all_RRS hl0 _ List.mem_cons_self) rfl rfl rfl rfl ⟨rfl, rfl, ⟨x, rfl, by show (0 : Int) ≤ _; omega, by show _ ≤ (800 : Int); omega⟩, trivial⟩ hJ (nl _)
  have two : ∀ (M4 : aM), Jm RRS (eW ens_166) M M4 → JR RRS (aset (aset M4 2 1 (.int (Int32.ofInt 0))) 0 13 (.int ((aset M4 2 1 (.int (Int32.ofInt 0))).1 1 2))) := fun M4 q => JR_set (q := ((-1), 800)) (JR_set (q := (0, 800)) ⟨q.1, q.2.1⟩ (by decide +kernel) ⟨by decide, by decide⟩) (by decide +kernel) (rgF_ok (M := M4) (a := 1) (k := 2) q.1 (show rgF RRS.1 1 2 = some ((-1), 800) by decide +kernel) : inI (M4.1 1 2) ((-1), 800))
  have sw : ∀ (M5 : aM), JR RRS M5 → JR RR (aset (aset M5 0 1 (.ref 4)) 0 2 (.ref 17)) := fun M5 h5 => JR_swap (R := RRS) (S := RR) (p := 4 + 1) (q := 17 + 1) rfl (by decide +kernel) (by decide +kernel) (by decide +kernel) h5 rfl rfl
  refine s39b_0 (kc := 1) (ks := 6) hJ.2 (fun _ => ⟨rfl, Or.inl ⟨rfl, rfl⟩⟩) _ rd (fun _ M4 M' => M'.1 49 0 = 0 ∧ M'.1 49 1 = 0 ∧ M'.1 53 0 = 0) (fun h1 h3 y M4 e4 q4 h6 => seta_c hl0 (sw _ (two M4 q4.2))) (fun h1 h3 y M4 e4 q4 h6 M7 e7 q7 => ⟨rfl, Or.inr ⟨_, rfl, Or.inl ⟨rfl, q7⟩⟩⟩) (fun _ _ _ _ _ _ _ => vp_in_nI (n := 0) (by omega) (by decide)) (fun h1 h3 y M4 e4 q4 h6 => ⟨rfl, Or.inr ⟨_, rfl, Or.inr ⟨h6, fun k => ?_, fun k => ?_⟩⟩⟩) (fun _ _ => ⟨rfl, Or.inl ⟨rfl, rfl⟩⟩)
  · show M4.1 49 k = M.1 49 k
    exact q4.2.2.2.1 49 k (wr_p (fun a => Nat.beq 49 a) (by decide +kernel) rfl)
  · show M4.1 53 k = M.1 53 k
    exact q4.2.2.2.1 53 k (wr_p (fun a => Nat.beq 53 a) (by decide +kernel) rfl)
end CALB
section CALM
variable {l : aL} {M : aM} {x y : Int32} {H : HS}
theorem coq85_c (hl0 : l.1.stackTraces = false) : AC l (pI pg 192) (fcV M (fun M' => ∀ c k, c ≠ 89 → M'.1 c k = M.1 c k)) 0 0 [.ref 58, .ref 85, .ref 89] SHF M := by
  refine fw_of hl0 ⟨by decide +kernel, by decide +kernel, by decide +kernel⟩ rfl ?_
  refine coq85_0 ?_
  have loop : ∀ (d i : Nat) (M1 : aM), i + d = 6 → M1.2.2 = M.2.2 → (∀ c k, c ≠ 89 → M1.1 c k = M.1 c k) → AW l (pI pg 192) (fcV M (fun M' => ∀ c k, c ≠ 89 → M'.1 c k = M.1 c k)) 0 0 2 [(3, .int (nI i)), (1, .ref 85), (2, .ref 89)] [] SHF M1 := by
    intro d
    induction d with
    | zero =>
      intro i M1 hi e2 h2
      have hi2 : i = 6 := by omega
      subst hi2
      have le : (Int32.ofNat 6 : Int32) ≤ nI 6 := by decide
      exact coq85_2 (fun _ => ⟨rfl, e2, rfl, h2⟩) (fun h => absurd le h) (fun h => absurd le h)
    | succ d ih =>
      intro i M1 hi e2 h2
      refine coq85_2 (fun h => ?_) (fun _ => vp_in_nI (by omega) (by decide)) (fun _ => ?_)
      · exact ge_no (a := i) (b := 6) (by omega) (by decide) h
      · rw [show nI i + Int32.ofInt 1 = nI (i + 1) from nI_1 _]
        refine ih (i + 1) _ (by omega) e2 (fun c k hc => ?_)
        rw [set_1, if_neg hc]
        exact h2 c k hc
  exact loop 6 0 M (by omega) rfl (fun _ _ _ => rfl)
theorem coq86_c (hl0 : l.1.stackTraces = false) : AC l (pI pg 192) (fcV M (fun M' => ∀ c k, c ≠ 90 → M'.1 c k = M.1 c k)) 0 0 [.ref 58, .ref 86, .ref 90] SHF M := by
  refine fw_of hl0 ⟨by decide +kernel, by decide +kernel, by decide +kernel⟩ rfl ?_
  refine coq86_0 ?_
  have loop : ∀ (d i : Nat) (M1 : aM), i + d = 48 → M1.2.2 = M.2.2 → (∀ c k, c ≠ 90 → M1.1 c k = M.1 c k) → AW l (pI pg 192) (fcV M (fun M' => ∀ c k, c ≠ 90 → M'.1 c k = M.1 c k)) 0 0 2 [(3, .int (nI i)), (1, .ref 86), (2, .ref 90)] [] SHF M1 := by
    intro d
    induction d with
    | zero =>
      intro i M1 hi e2 h2
      have hi2 : i = 48 := by omega
      subst hi2
      have le : (Int32.ofNat 48 : Int32) ≤ nI 48 := by decide
      exact coq86_2 (fun _ => ⟨rfl, e2, rfl, h2⟩) (fun h => absurd le h) (fun h => absurd le h)
    | succ d ih =>
      intro i M1 hi e2 h2
      refine coq86_2 (fun h => ?_) (fun _ => vp_in_nI (by omega) (by decide)) (fun _ => ?_)
      · exact ge_no (a := i) (b := 48) (by omega) (by decide) h
      · rw [show nI i + Int32.ofInt 1 = nI (i + 1) from nI_1 _]
        refine ih (i + 1) _ (by omega) e2 (fun c k hc => ?_)
        rw [set_1, if_neg hc]
        exact h2 c k hc
  exact loop 48 0 M (by omega) rfl (fun _ _ _ => rfl)
theorem coq87_c (hl0 : l.1.stackTraces = false) : AC l (pI pg 192) (fcV M (fun M' => ∀ c k, c ≠ 91 → M'.1 c k = M.1 c k)) 0 0 [.ref 58, .ref 87, .ref 91] SHF M := by
  refine fw_of hl0 ⟨by decide +kernel, by decide +kernel, by decide +kernel⟩ rfl ?_
  refine coq87_0 ?_
  have loop : ∀ (d i : Nat) (M1 : aM), i + d = 200 → M1.2.2 = M.2.2 → (∀ c k, c ≠ 91 → M1.1 c k = M.1 c k) → AW l (pI pg 192) (fcV M (fun M' => ∀ c k, c ≠ 91 → M'.1 c k = M.1 c k)) 0 0 2 [(3, .int (nI i)), (1, .ref 87), (2, .ref 91)] [] SHF M1 := by
    intro d
    induction d with
    | zero =>
      intro i M1 hi e2 h2
      have hi2 : i = 200 := by omega
      subst hi2
      have le : (Int32.ofNat 200 : Int32) ≤ nI 200 := by decide
      exact coq87_2 (fun _ => ⟨rfl, e2, rfl, h2⟩) (fun h => absurd le h) (fun h => absurd le h)
    | succ d ih =>
      intro i M1 hi e2 h2
      refine coq87_2 (fun h => ?_) (fun _ => vp_in_nI (by omega) (by decide)) (fun _ => ?_)
      · exact ge_no (a := i) (b := 200) (by omega) (by decide) h
      · rw [show nI i + Int32.ofInt 1 = nI (i + 1) from nI_1 _]
        refine ih (i + 1) _ (by omega) e2 (fun c k hc => ?_)
        rw [set_1, if_neg hc]
        exact h2 c k hc
  exact loop 200 0 M (by omega) rfl (fun _ _ _ => rfl)
theorem coq88_c (hl0 : l.1.stackTraces = false) : AC l (pI pg 192) (fcV M (fun M' => ∀ c k, c ≠ 92 → M'.1 c k = M.1 c k)) 0 0 [.ref 58, .ref 88, .ref 92] SHF M := by
  refine fw_of hl0 ⟨by decide +kernel, by decide +kernel, by decide +kernel⟩ rfl ?_
  refine coq88_0 ?_
  have loop : ∀ (d i : Nat) (M1 : aM), i + d = 1600 → M1.2.2 = M.2.2 → (∀ c k, c ≠ 92 → M1.1 c k = M.1 c k) → AW l (pI pg 192) (fcV M (fun M' => ∀ c k, c ≠ 92 → M'.1 c k = M.1 c k)) 0 0 2 [(3, .int (nI i)), (1, .ref 88), (2, .ref 92)] [] SHF M1 := by
    intro d
    induction d with
    | zero =>
      intro i M1 hi e2 h2
      have hi2 : i = 1600 := by omega
      subst hi2
      have le : (Int32.ofNat 1600 : Int32) ≤ nI 1600 := by decide
      exact coq88_2 (fun _ => ⟨rfl, e2, rfl, h2⟩) (fun h => absurd le h) (fun h => absurd le h)
    | succ d ih =>
      intro i M1 hi e2 h2
      refine coq88_2 (fun h => ?_) (fun _ => vp_in_nI (by omega) (by decide)) (fun _ => ?_)
      · exact ge_no (a := i) (b := 1600) (by omega) (by decide) h
      · rw [show nI i + Int32.ofInt 1 = nI (i + 1) from nI_1 _]
        refine ih (i + 1) _ (by omega) e2 (fun c k hc => ?_)
        rw [set_1, if_neg hc]
        exact h2 c k hc
  exact loop 1600 0 M (by omega) rfl (fun _ _ _ => rfl)
theorem coq89_c (hl0 : l.1.stackTraces = false) : AC l (pI pg 192) (fcV M (fun M' => ∀ c k, c ≠ 85 → M'.1 c k = M.1 c k)) 0 0 [.ref 58, .ref 89, .ref 85] SHF M := by
  refine fw_of hl0 ⟨by decide +kernel, by decide +kernel, by decide +kernel⟩ rfl ?_
  refine coq89_0 ?_
  have loop : ∀ (d i : Nat) (M1 : aM), i + d = 6 → M1.2.2 = M.2.2 → (∀ c k, c ≠ 85 → M1.1 c k = M.1 c k) → AW l (pI pg 192) (fcV M (fun M' => ∀ c k, c ≠ 85 → M'.1 c k = M.1 c k)) 0 0 2 [(3, .int (nI i)), (1, .ref 89), (2, .ref 85)] [] SHF M1 := by
    intro d
    induction d with
    | zero =>
      intro i M1 hi e2 h2
      have hi2 : i = 6 := by omega
      subst hi2
      have le : (Int32.ofNat 6 : Int32) ≤ nI 6 := by decide
      exact coq89_2 (fun _ => ⟨rfl, e2, rfl, h2⟩) (fun h => absurd le h) (fun h => absurd le h)
    | succ d ih =>
      intro i M1 hi e2 h2
      refine coq89_2 (fun h => ?_) (fun _ => vp_in_nI (by omega) (by decide)) (fun _ => ?_)
      · exact ge_no (a := i) (b := 6) (by omega) (by decide) h
      · rw [show nI i + Int32.ofInt 1 = nI (i + 1) from nI_1 _]
        refine ih (i + 1) _ (by omega) e2 (fun c k hc => ?_)
        rw [set_1, if_neg hc]
        exact h2 c k hc
  exact loop 6 0 M (by omega) rfl (fun _ _ _ => rfl)
theorem coq90_c (hl0 : l.1.stackTraces = false) : AC l (pI pg 192) (fcV M (fun M' => ∀ c k, c ≠ 86 → M'.1 c k = M.1 c k)) 0 0 [.ref 58, .ref 90, .ref 86] SHF M := by
  refine fw_of hl0 ⟨by decide +kernel, by decide +kernel, by decide +kernel⟩ rfl ?_
  refine coq90_0 ?_
  have loop : ∀ (d i : Nat) (M1 : aM), i + d = 48 → M1.2.2 = M.2.2 → (∀ c k, c ≠ 86 → M1.1 c k = M.1 c k) → AW l (pI pg 192) (fcV M (fun M' => ∀ c k, c ≠ 86 → M'.1 c k = M.1 c k)) 0 0 2 [(3, .int (nI i)), (1, .ref 90), (2, .ref 86)] [] SHF M1 := by
    intro d
    induction d with
    | zero =>
      intro i M1 hi e2 h2
      have hi2 : i = 48 := by omega
      subst hi2
      have le : (Int32.ofNat 48 : Int32) ≤ nI 48 := by decide
      exact coq90_2 (fun _ => ⟨rfl, e2, rfl, h2⟩) (fun h => absurd le h) (fun h => absurd le h)
    | succ d ih =>
      intro i M1 hi e2 h2
      refine coq90_2 (fun h => ?_) (fun _ => vp_in_nI (by omega) (by decide)) (fun _ => ?_)
      · exact ge_no (a := i) (b := 48) (by omega) (by decide) h
      · rw [show nI i + Int32.ofInt 1 = nI (i + 1) from nI_1 _]
        refine ih (i + 1) _ (by omega) e2 (fun c k hc => ?_)
        rw [set_1, if_neg hc]
        exact h2 c k hc
  exact loop 48 0 M (by omega) rfl (fun _ _ _ => rfl)
theorem coq91_c (hl0 : l.1.stackTraces = false) : AC l (pI pg 192) (fcV M (fun M' => ∀ c k, c ≠ 87 → M'.1 c k = M.1 c k)) 0 0 [.ref 58, .ref 91, .ref 87] SHF M := by
  refine fw_of hl0 ⟨by decide +kernel, by decide +kernel, by decide +kernel⟩ rfl ?_
  refine coq91_0 ?_
  have loop : ∀ (d i : Nat) (M1 : aM), i + d = 200 → M1.2.2 = M.2.2 → (∀ c k, c ≠ 87 → M1.1 c k = M.1 c k) → AW l (pI pg 192) (fcV M (fun M' => ∀ c k, c ≠ 87 → M'.1 c k = M.1 c k)) 0 0 2 [(3, .int (nI i)), (1, .ref 91), (2, .ref 87)] [] SHF M1 := by
    intro d
    induction d with
    | zero =>
      intro i M1 hi e2 h2
      have hi2 : i = 200 := by omega
      subst hi2
      have le : (Int32.ofNat 200 : Int32) ≤ nI 200 := by decide
      exact coq91_2 (fun _ => ⟨rfl, e2, rfl, h2⟩) (fun h => absurd le h) (fun h => absurd le h)
    | succ d ih =>
      intro i M1 hi e2 h2
      refine coq91_2 (fun h => ?_) (fun _ => vp_in_nI (by omega) (by decide)) (fun _ => ?_)
      · exact ge_no (a := i) (b := 200) (by omega) (by decide) h
      · rw [show nI i + Int32.ofInt 1 = nI (i + 1) from nI_1 _]
        refine ih (i + 1) _ (by omega) e2 (fun c k hc => ?_)
        rw [set_1, if_neg hc]
        exact h2 c k hc
  exact loop 200 0 M (by omega) rfl (fun _ _ _ => rfl)
theorem coq92_c (hl0 : l.1.stackTraces = false) : AC l (pI pg 192) (fcV M (fun M' => ∀ c k, c ≠ 88 → M'.1 c k = M.1 c k)) 0 0 [.ref 58, .ref 92, .ref 88] SHF M := by
  refine fw_of hl0 ⟨by decide +kernel, by decide +kernel, by decide +kernel⟩ rfl ?_
  refine coq92_0 ?_
  have loop : ∀ (d i : Nat) (M1 : aM), i + d = 1600 → M1.2.2 = M.2.2 → (∀ c k, c ≠ 88 → M1.1 c k = M.1 c k) → AW l (pI pg 192) (fcV M (fun M' => ∀ c k, c ≠ 88 → M'.1 c k = M.1 c k)) 0 0 2 [(3, .int (nI i)), (1, .ref 92), (2, .ref 88)] [] SHF M1 := by
    intro d
    induction d with
    | zero =>
      intro i M1 hi e2 h2
      have hi2 : i = 1600 := by omega
      subst hi2
      have le : (Int32.ofNat 1600 : Int32) ≤ nI 1600 := by decide
      exact coq92_2 (fun _ => ⟨rfl, e2, rfl, h2⟩) (fun h => absurd le h) (fun h => absurd le h)
    | succ d ih =>
      intro i M1 hi e2 h2
      refine coq92_2 (fun h => ?_) (fun _ => vp_in_nI (by omega) (by decide)) (fun _ => ?_)
      · exact ge_no (a := i) (b := 1600) (by omega) (by decide) h
      · rw [show nI i + Int32.ofInt 1 = nI (i + 1) from nI_1 _]
        refine ih (i + 1) _ (by omega) e2 (fun c k hc => ?_)
        rw [set_1, if_neg hc]
        exact h2 c k hc
  exact loop 1600 0 M (by omega) rfl (fun _ _ _ => rfl)
/-- what image, restore, begin of the reference leave alone -/
def mFr (M M' : aM) : Prop := (∀ k, M'.1 66 k = M.1 66 k)
theorem mim_c (hl0 : l.1.stackTraces = false) (hR : ∀ e ∈ RM, M.2.2 e.1 e.2.1 = e.2.2) {a b : Option Nat} (ha : mKa a M) (hb : mKb b M) : AC l (pI pg 246) (fcI M (fun z M' => QIm z (imO a b).1 ∧ mKa a M' ∧ mKb (imO a b).2 M' ∧ mFr M M')) 0 0 [.ref 58] SHF M := by
  refine fw_of hl0 ⟨by decide +kernel, by decide +kernel, by decide +kernel⟩ rfl ?_
  cases a with
  | none =>
    have h : (aset M 58 0 (.int (Int32.ofInt 0))).1 58 51 = Int32.ofInt (-1) := ha
    exact mim_0 hR (fun _ => True) (fun g => absurd h g) (fun _ _ => True) (fun g => absurd h g) (fun _ _ _ => True) (fun g => absurd h g) (fun _ _ _ _ => True) (fun g => absurd h g) (fun g => absurd h g) (fun _ => ⟨rfl, rfl, _, rfl, Or.inr ⟨rfl, rfl⟩, ha, mKb_eq hb rfl rfl, fun _ => rfl⟩)
  | some n =>
    have n2 := ha.2
    have h : ¬ (aset M 58 0 (.int (Int32.ofInt 0))).1 58 51 = Int32.ofInt (-1) := fun g => by
      have g2 : M.1 58 51 = Int32.ofInt (-1) := g
      rw [ha.1] at g2
      exact nI_nm1 (by omega) g2
    refine mim_0 hR _ (fun _ => coq85_c hl0) (fun M2 M' => ∀ c k, c ≠ 90 → M'.1 c k = M2.1 c k) (fun _ M2 e2 q2 => coq86_c hl0) (fun M2 M4 M' => ∀ c k, c ≠ 91 → M'.1 c k = M4.1 c k) (fun _ M2 e2 q2 M4 e4 q4 => coq87_c hl0) (fun M2 M4 M6 M' => ∀ c k, c ≠ 92 → M'.1 c k = M6.1 c k) (fun _ M2 e2 q2 M4 e4 q4 M6 e6 q6 => coq88_c hl0) (fun _ M2 e2 q2 M4 e4 q4 M6 e6 q6 M8 e8 q8 => ?_) (fun g => absurd g h)
    have f : ∀ c k, c ≠ 89 → c ≠ 90 → c ≠ 91 → c ≠ 92 → M8.1 c k = _ := fun c k h1 h2 h3 h4 => (q8 c k h4).trans ((q6 c k h3).trans ((q4 c k h2).trans (q2 c k h1)))
    refine ⟨rfl, e8.trans (e6.trans (e4.trans e2)), _, rfl, Or.inl ⟨rfl, rfl⟩, mKa_eq ha ?_, ⟨?_, ?_, n2⟩, fun k => ?_⟩
    · exact (f 58 51 (by decide) (by decide) (by decide) (by decide)).trans rfl
    · exact (f 58 57 (by decide) (by decide) (by decide) (by decide)).trans rfl
    · exact (f 58 58 (by decide) (by decide) (by decide) (by decide)).trans ha.1
    · exact (f 66 k (by decide) (by decide) (by decide) (by decide)).trans rfl
theorem mrs_c (hl0 : l.1.stackTraces = false) (hR : ∀ e ∈ RM, M.2.2 e.1 e.2.1 = e.2.2) {a b : Option Nat} (ha : mKa a M) (hb : mKb b M) : AC l (pI pg 247) (fcI M (fun z M' => QIm z (imO b a).1 ∧ mKb b M' ∧ mKa (imO b a).2 M' ∧ mFr M M')) 0 0 [.ref 58] SHF M := by
  refine fw_of hl0 ⟨by decide +kernel, by decide +kernel, by decide +kernel⟩ rfl ?_
  cases b with
  | none =>
    have h : (aset M 58 0 (.int (Int32.ofInt 0))).1 58 57 = 0 := hb
    exact mrs_0 hR (fun _ => True) (fun g => absurd h g) (fun _ _ => True) (fun g => absurd h g) (fun _ _ _ => True) (fun g => absurd h g) (fun _ _ _ _ => True) (fun g => absurd h g) (fun g => absurd h g) (fun _ => ⟨rfl, rfl, _, rfl, Or.inr ⟨rfl, rfl⟩, hb, mKa_eq ha rfl, fun _ => rfl⟩)
  | some n =>
    have n2 := hb.2.2
    have h : ¬ (aset M 58 0 (.int (Int32.ofInt 0))).1 58 57 = 0 := fun g => by
      have g2 : M.1 58 57 = 0 := g
      rw [hb.1] at g2
      exact absurd g2 (by decide)
    refine mrs_0 hR _ (fun _ => coq89_c hl0) (fun M2 M' => ∀ c k, c ≠ 86 → M'.1 c k = M2.1 c k) (fun _ M2 e2 q2 => coq90_c hl0) (fun M2 M4 M' => ∀ c k, c ≠ 87 → M'.1 c k = M4.1 c k) (fun _ M2 e2 q2 M4 e4 q4 => coq91_c hl0) (fun M2 M4 M6 M' => ∀ c k, c ≠ 88 → M'.1 c k = M6.1 c k) (fun _ M2 e2 q2 M4 e4 q4 M6 e6 q6 => coq92_c hl0) (fun _ M2 e2 q2 M4 e4 q4 M6 e6 q6 M8 e8 q8 => ?_) (fun g => absurd g h)
    have f : ∀ c k, c ≠ 85 → c ≠ 86 → c ≠ 87 → c ≠ 88 → M8.1 c k = _ := fun c k h1 h2 h3 h4 => (q8 c k h4).trans ((q6 c k h3).trans ((q4 c k h2).trans (q2 c k h1)))
    refine ⟨rfl, e8.trans (e6.trans (e4.trans e2)), _, rfl, Or.inl ⟨rfl, rfl⟩, mKb_eq hb ?_ ?_, ⟨?_, n2⟩, fun k => ?_⟩
    · exact (f 58 57 (by decide) (by decide) (by decide) (by decide)).trans rfl
    · exact (f 58 58 (by decide) (by decide) (by decide) (by decide)).trans rfl
    · exact (f 58 51 (by decide) (by decide) (by decide) (by decide)).trans hb.2.1
    · exact (f 66 k (by decide) (by decide) (by decide) (by decide)).trans rfl
theorem mbe_c (hl0 : l.1.stackTraces = false) (hR : ∀ e ∈ RM, M.2.2 e.1 e.2.1 = e.2.2) (hI : HI H) (hm : mHo H M) : AC l (pI pg 238) (fcV M (fun M' => M'.1 58 51 = Int32.ofInt 0 ∧ M'.1 58 57 = M.1 58 57 ∧ M'.1 58 58 = M.1 58 58 ∧ mFr M M')) 0 0 [.ref 58, .int x] SHF M := by
  have hp6 := hI.pe
  have hw8 := hI.wo
  have z6 : (Int8.ofInt 6).toInt32 = nI 6 := by decide
  have z8 : (Int8.ofInt 8).toInt32 = nI 8 := by decide
  refine fw_of hl0 ⟨by decide +kernel, by decide +kernel, by decide +kernel⟩ rfl ?_
  refine mbe_0 hR ?_
  have ix : ∀ {i j : Nat}, (Int8.ofInt 8).toInt32 * nI i + nI j = nI (8 * i + j) := fun {i j} => by rw [z8, nI_mulN, nI_add]
  have loop : ∀ (d i : Nat) (M1 : aM), i + d = 6 → M1.2.2 = M.2.2 → (∀ c k, c ≠ 85 → c ≠ 86 → M1.1 c k = (aset (aset (aset M 58 0 (.int (Int32.ofInt 0))) 58 51 (.int (Int32.ofInt 0))) 58 52 (.int x)).1 c k) → AW l (pI pg 238) (fcV M (fun M' => M'.1 58 51 = Int32.ofInt 0 ∧ M'.1 58 57 = M.1 58 57 ∧ M'.1 58 58 = M.1 58 58 ∧ mFr M M')) 0 0 17 [(2, .int (nI i)), (1, .int x), (0, .ref 58)] [] SHF M1 := by
    intro d
    induction d with
    | zero =>
      intro i M1 hi e1 h1
      have hi2 : i = 6 := by omega
      subst hi2
      have le : (Int8.ofInt 6).toInt32 ≤ nI 6 := by decide
      exact mbe_17 (by rw [e1]; exact hR) (fun _ => ⟨rfl, e1, rfl, h1 58 51 (by decide) (by decide), h1 58 57 (by decide) (by decide), h1 58 58 (by decide) (by decide), fun k => h1 66 k (by decide) (by decide)⟩) (fun h => absurd le h) (fun h => absurd le h)
    | succ d ih =>
      intro i M1 hi e1 h1
      have lt : ¬ (Int8.ofInt 6).toInt32 ≤ nI i := by rw [z6, nI_leI (by decide) (by omega)]; omega
      have third : ∀ (n j : Nat) (M2 : aM), j + n = 8 → M2.2.2 = M.2.2 → (∀ c k, c ≠ 85 → c ≠ 86 → M2.1 c k = (aset (aset (aset M 58 0 (.int (Int32.ofInt 0))) 58 51 (.int (Int32.ofInt 0))) 58 52 (.int x)).1 c k) → AW l (pI pg 238) (fcV M (fun M' => M'.1 58 51 = Int32.ofInt 0 ∧ M'.1 58 57 = M.1 58 57 ∧ M'.1 58 58 = M.1 58 58 ∧ mFr M M')) 0 0 86 [(3, .int (nI j)), (2, .int (nI i)), (1, .int x), (0, .ref 58)] [] SHF M2 := by
        intro n
        induction n with
        | zero =>
          intro j M2 hj e2 h2
          have hj2 : j = 8 := by omega
          subst hj2
          have le : (Int8.ofInt 8).toInt32 ≤ nI 8 := by decide
          refine mbe_86 (by rw [e2]; exact hR) (fun _ => ?_) (fun h => absurd le h) (fun h => absurd le h)
          rw [show nI i + Int32.ofInt 1 = nI (i + 1) from nI_1 _]
          exact ih (i + 1) M2 (by omega) e2 h2
        | succ n ih2 =>
          intro j M2 hj e2 h2
          have lt2 : ¬ (Int8.ofInt 8).toInt32 ≤ nI j := by rw [z8, nI_leI (by decide) (by omega)]; omega
          refine mbe_86 (by rw [e2]; exact hR) (fun h => absurd h lt2) (fun _ => by rw [ix]; exact vp_in_nI (by omega) (by decide)) (fun _ => ?_)
          rw [show nI j + Int32.ofInt 1 = nI (j + 1) from nI_1 _]
          refine ih2 (j + 1) _ (by omega) e2 (fun c k c1 c2 => ?_)
          rw [set_1, if_neg c2]
          exact h2 c k c1 c2
      have second : ∀ (n j : Nat) (M2 : aM), j + n = 8 → M2.2.2 = M.2.2 → (∀ c k, c ≠ 85 → c ≠ 86 → M2.1 c k = (aset (aset (aset M 58 0 (.int (Int32.ofInt 0))) 58 51 (.int (Int32.ofInt 0))) 58 52 (.int x)).1 c k) → AW l (pI pg 238) (fcV M (fun M' => M'.1 58 51 = Int32.ofInt 0 ∧ M'.1 58 57 = M.1 58 57 ∧ M'.1 58 58 = M.1 58 58 ∧ mFr M M')) 0 0 32 [(3, .int (nI j)), (2, .int (nI i)), (1, .int x), (0, .ref 58)] [] SHF M2 := by
        intro n
        induction n with
        | zero =>
          intro j M2 hj e2 h2
          have w : M2.1 58 2 = nI H.wo := (h2 58 2 (by decide) (by decide)).trans hm.2.1
          have le : M2.1 58 2 ≤ nI j := by rw [w, nI_leI (by omega) (by omega)]; omega
          exact mbe_32 (by rw [e2]; exact hR) (fun _ => third 8 0 M2 (by decide) e2 h2) (fun h => absurd le h) (fun h => absurd le h) (fun h => absurd le h) (fun h => absurd le h) (fun h => absurd le h)
        | succ n ih2 =>
          intro j M2 hj e2 h2
          have st : ∀ (v : Int32) (k0 : Nat), AW l (pI pg 238) (fcV M (fun M' => M'.1 58 51 = Int32.ofInt 0 ∧ M'.1 58 57 = M.1 58 57 ∧ M'.1 58 58 = M.1 58 58 ∧ mFr M M')) 0 0 32 [(3, .int (nI (j + 1))), (2, .int (nI i)), (1, .int x), (0, .ref 58)] [] SHF (aset M2 85 k0 (.int v)) := fun v k0 => ih2 (j + 1) _ (by omega) e2 (fun c k c1 c2 => by
            rw [set_1, if_neg c1]
            exact h2 c k c1 c2)
          refine mbe_32 (by rw [e2]; exact hR) (fun _ => third 8 0 M2 (by decide) e2 h2) (fun _ _ => third 8 0 M2 (by decide) e2 h2) (fun _ _ => vp_in_nI (by omega) (by decide)) (fun _ _ => by rw [ix]; exact vp_in_nI (by omega) (by decide)) (fun _ _ _ => ?_) (fun _ _ _ => ?_)
          · rw [show nI j + Int32.ofInt 1 = nI (j + 1) from nI_1 _]
            exact st _ _
          · rw [show nI j + Int32.ofInt 1 = nI (j + 1) from nI_1 _]
            exact st _ _
      refine mbe_17 (by rw [e1]; exact hR) (fun h => absurd h lt) (fun _ => vp_in_nI (by omega) (by decide)) (fun _ => ?_)
      refine second 8 0 _ (by decide) e1 (fun c k c1 c2 => ?_)
      rw [set_1, if_neg c1]
      exact h1 c k c1 c2
  exact loop 6 0 _ (by decide) rfl (fun _ _ _ _ => rfl)
/-- on of the reference -/
def QMon (a : Option Nat) (x : Int32) (M : aM) : Int32 → aM → Prop := fun z M' => M'.1 58 57 = M.1 58 57 ∧ M'.1 58 58 = M.1 58 58 ∧ ((onO a x = none ∧ M'.1 58 0 = 1 ∧ M'.1 58 51 = M.1 58 51 ∧ mFr M M') ∨ (onO a x = some none ∧ M'.1 58 0 = 0 ∧ z = Int32.ofInt (-1) ∧ M'.1 58 51 = M.1 58 51 ∧ M'.1 66 2 = M.1 66 2 + Int32.ofInt 1 ∧ ∀ k, k ≠ 2 → M'.1 66 k = M.1 66 k) ∨ ∃ m, onO a x = some (some m) ∧ m ≤ 200 ∧ M'.1 58 0 = 0 ∧ z = nI m ∧ M'.1 58 51 = nI m ∧ mFr M M')
theorem week_of {R : sR} (hl0 : l.1.stackTraces = false) (h : cOk l pg R SHF en_week) (hJ : JR R M) {b : Nat} (hb : b < 200) (h51 : M.1 58 51 = nI b) : AC l (pI pg (eJ en_week)) (fcV M (fun M' => Jm R (eW en_week) M M' ∧ M'.1 58 51 = nI (b + 1))) 0 0 [.ref 58] SHF M := by
  have h1 := h M [.ref 58] ⟨rfl, trivial⟩ hJ (fun q hq => by
    have hq : q = (58, 51, (0, 199)) := by simpa [en_week, eB] using hq
    subst hq
    show (0 : Int) ≤ (M.1 58 51).toInt ∧ (M.1 58 51).toInt ≤ 199
    rw [h51, nI_toInt (by omega)]
    omega)
  refine AC.post hl0 (fun r sh' M' hp => ?_) h1
  obtain ⟨p1, p2, p3⟩ := hp
  cases r with
  | inr X => exact absurd p3 List.not_mem_nil
  | inl v =>
    obtain ⟨c, c1, c2, c3⟩ := p3
    have hc : c = (none, [(58, 51, (1, 200), some (1, 1))]) := by simpa [en_week, eC] using c1
    subst hc
    cases v with
    | some v => cases c2
    | none =>
      have g := c3 (58, 51, (1, 200), some (1, 1)) List.mem_cons_self
      have g2 := g.2 (1, 1) rfl
      simp only at g2
      refine ⟨p1, p2.2.2.2, rfl, p2, ?_⟩
      apply Int32.toInt_inj.mp
      rw [h51, nI_toInt (by omega)] at g2
      rw [nI_toInt (by omega)]
      omega
theorem mon_c {R : sR} (hl0 : l.1.stackTraces = false) (hk : cOk l pg R SHF en_week) (w0 : wcF R.1 58 0 (0, 2) = true) (hJ : JR R M) (hR : ∀ e ∈ RM, M.2.2 e.1 e.2.1 = e.2.2) {a : Option Nat} (ha : mKa a M) : AC l (pI pg 239) (fcI M (QMon a x M)) 0 0 [.ref 58, .int x] SHF M := by
  refine fw_of hl0 ⟨by decide +kernel, by decide +kernel, by decide +kernel⟩ rfl ?_
  have v2 : vp_in (Int32.ofInt 2) 3 := vp_in_nI (n := 2) (by decide) (by decide)
  have z1 : ¬ (1 : Int32) = 0 := by decide
  have hz : (Int32.ofInt 2).toNatClampNeg = 2 := by decide
  have ref : onO a x = some none → fcI M (QMon a x M) (.inl (some (.int (Int32.ofInt (-1))))) SHF (aset (M0w M) 66 2 (.int ((M0w M).1 66 2 + Int32.ofInt 1))) := fun h => ⟨rfl, rfl, _, rfl, rfl, rfl, Or.inr (Or.inl ⟨h, rfl, rfl, rfl, rfl, fun k hk => by rw [set_1, if_pos rfl, if_neg hk]; rfl⟩)⟩
  have loop : ∀ (b : Nat), a = some b → b + x.toNatClampNeg ≤ 200 → inN 61 x → ∀ (n j : Nat) (M1 : aM), j + n = x.toNatClampNeg → JR R M1 → M1.2.2 = M.2.2 → M1.1 58 51 = nI (b + j) → M1.1 58 0 = 0 → M1.1 58 57 = M.1 58 57 → M1.1 58 58 = M.1 58 58 → (∀ k, M1.1 66 k = M.1 66 k) → AW l (pI pg 239) (fcI M (QMon a x M)) 0 0 56 [(2, .int (nI j)), (1, .int x), (0, .ref 58)] [] SHF M1 := by
    intro b ab h2 hx n
    have hlt := inN_lt hx
    have oo : onO a x = some (some (b + x.toNatClampNeg)) := by
      rw [onO, if_pos hx, ab]
      show some (if b + x.toNatClampNeg ≤ 200 then _ else _) = _
      rw [if_pos h2]
    induction n with
    | zero =>
      intro j M1 hj j1 e1 g1 g0 g2 g3 g4
      have le : x ≤ nI j := by
        rw [inN_eq hx, nI_leI (by omega) (by omega)]
        omega
      refine mon_56 (by rw [e1]; exact hR) (fun _ => ⟨rfl, e1, _, rfl, g2, g3, Or.inr (Or.inr ⟨b + x.toNatClampNeg, oo, h2, g0, ?_, ?_, g4⟩)⟩) (fun _ => True) (fun h => absurd le h) (fun h => absurd le h)
      · rw [g1, show j = x.toNatClampNeg by omega]
      · rw [g1, show j = x.toNatClampNeg by omega]
    | succ n ih =>
      intro j M1 hj j1 e1 g1 g0 g2 g3 g4
      have lt : ¬ x ≤ nI j := by
        rw [inN_eq hx, nI_leI (by omega) (by omega)]
        omega
      refine mon_56 (by rw [e1]; exact hR) (fun h => absurd h lt) _ (fun _ => week_of hl0 hk j1 (b := b + j) (by omega) g1) (fun _ M3 e3 q3 => ?_)
      rw [show nI j + Int32.ofInt 1 = nI (j + 1) from nI_1 _]
      exact ih (j + 1) M3 (by omega) ⟨q3.1.1, q3.1.2.1⟩ (e3.trans e1) q3.2 ((q3.1.2.2.1 58 0 rfl).trans g0) ((q3.1.2.2.1 58 57 rfl).trans g2) ((q3.1.2.2.1 58 58 rfl).trans g3) (fun k => (q3.1.2.2.1 66 k (wr_p (fun a => Nat.beq 66 a) (by decide +kernel) rfl)).trans (g4 k))
  refine mon_0 hR _ (wib_c (m := 60) hl0 z_60 (by decide)) (fun y1 M1 z M' => (¬ y1 = 0 ∧ z = 1 ∧ M' = M0w M) ∨ (y1 = 0 ∧ z = 0 ∧ M' = M1w M)) (fun y1 M1 e1 q1 => ?_) (fun y1 M1 e1 q1 y3 M3 e3 q3 h5 h6 => v2) (fun y1 M1 e1 q1 y3 M3 e3 q3 h5 h6 => ?_) (fun y1 M1 e1 q1 y3 M3 e3 q3 h5 h6 h9 => ?_) (fun y1 M1 e1 q1 y3 M3 e3 q3 h5 h6 h9 => v2) (fun y1 M1 e1 q1 y3 M3 e3 q3 h5 h6 h9 => ?_) (fun y1 M1 e1 q1 y3 M3 e3 q3 h5 => ?_)
  · obtain ⟨rfl, -⟩ := q1
    exact rgh_c hl0 hR
  · rw [hz]
    obtain ⟨n1, -, rfl⟩ : ¬ y1 = 0 ∧ y3 = 1 ∧ M3 = M0w M := q3.elim id (fun q => absurd q.2.1 h5)
    have hx : inN 61 x := q1.2.elim (fun q => q.2) (fun q => absurd q.1 n1)
    refine ref ?_
    rw [onO, if_pos hx]
    cases a with
    | none => rfl
    | some n =>
      have n2 := ha.2
      have g2 : M.1 58 51 = Int32.ofInt (-1) := h6
      rw [ha.1] at g2
      exact absurd g2 (nI_nm1 (by omega))
  · obtain ⟨n1, -, rfl⟩ : ¬ y1 = 0 ∧ y3 = 1 ∧ M3 = M0w M := q3.elim id (fun q => absurd q.2.1 h5)
    have hx : inN 61 x := q1.2.elim (fun q => q.2) (fun q => absurd q.1 n1)
    cases a with
    | none => exact absurd (show (M0w M).1 58 51 = Int32.ofInt (-1) from ha) h6
    | some n =>
      have n2 := ha.2
      have hlt := inN_lt hx
      have h9 : M.1 58 51 + x ≤ (Int16.ofInt 200).toInt32 := h9
      rw [ha.1, z_200] at h9
      have h9 : nI n + nI x.toNatClampNeg ≤ nI 200 := by
        rw [← inN_eq hx]
        exact h9
      rw [nI_add, nI_leI (by omega) (by decide)] at h9
      exact loop n rfl h9 hx x.toNatClampNeg 0 (M0w M) (by omega) (JR_set hJ w0 ⟨by decide, by decide⟩) rfl ha.1 rfl rfl rfl (fun _ => rfl)
  · rw [hz]
    obtain ⟨n1, -, rfl⟩ : ¬ y1 = 0 ∧ y3 = 1 ∧ M3 = M0w M := q3.elim id (fun q => absurd q.2.1 h5)
    have hx : inN 61 x := q1.2.elim (fun q => q.2) (fun q => absurd q.1 n1)
    refine ref ?_
    rw [onO, if_pos hx]
    cases a with
    | none => rfl
    | some n =>
      have n2 := ha.2
      have hlt := inN_lt hx
      show some (if n + x.toNatClampNeg ≤ 200 then _ else _) = _
      rw [if_neg]
      intro h8
      refine h9 ?_
      show M.1 58 51 + x ≤ (Int16.ofInt 200).toInt32
      rw [ha.1, z_200]
      have : nI n + nI x.toNatClampNeg ≤ nI 200 := by
        rw [nI_add, nI_leI (by omega) (by decide)]
        exact h8
      rw [← inN_eq hx] at this
      exact this
  · obtain ⟨n1, -, rfl⟩ : y1 = 0 ∧ y3 = 0 ∧ M3 = M1w M := q3.elim (fun q => absurd (q.2.1.symm.trans h5) z1) id
    have hx : ¬ inN 61 x := q1.2.elim (fun q => absurd (q.1.symm.trans n1) z1) (fun q => q.2)
    exact ⟨rfl, rfl, _, rfl, rfl, rfl, Or.inl ⟨by rw [onO, if_neg hx], rfl, rfl, fun _ => rfl⟩⟩
end CALM
