/-! MORE: one more person, of which sort -/
def gbO (Q : Nat → Prop) (s : Nat) : Option Nat → Prop
  | none => ∀ t, t < s → ¬ Q t
  | some b => b < s ∧ Q b ∧ ∀ t, t < s → Q t → pcN b < pcN t ∨ (pcN b = pcN t ∧ b ≤ t)
section GBO
variable {Q : Nat → Prop} {s : Nat}
theorem gb_eq {v v' : Option Nat} (h : gbO Q s v) (h' : gbO Q s v') : v = v' := by
  cases v with
  | none =>
    cases v' with
    | none => rfl
    | some b => exact absurd h'.2.1 (h b h'.1)
  | some a =>
    cases v' with
    | none => exact absurd h.2.1 (h' a h.1)
    | some b =>
      have h1 := h.2.2 b h'.1 h'.2.1
      have h2 := h'.2.2 a h.1 h.2.1
      exact congrArg some (by omega)
theorem gb_keep {v : Option Nat} (h : gbO Q s v) (hr : ¬ Q s) : gbO Q (s + 1) v := by
  cases v with
  | none =>
    intro t ht
    by_cases e : t = s
    · rw [e]; exact hr
    · exact h t (by omega)
  | some b =>
    refine ⟨Nat.lt_succ_of_lt h.1, h.2.1, fun t ht hn => ?_⟩
    by_cases e : t = s
    · rw [e] at hn; exact absurd hn hr
    · exact h.2.2 t (by omega) hn
theorem gb_none (h : gbO Q s none) (hr : Q s) : gbO Q (s + 1) (some s) := by
  refine ⟨Nat.lt_succ_self _, hr, fun t ht hn => ?_⟩
  by_cases e : t = s
  · rw [e]; exact Or.inr ⟨rfl, Nat.le_refl _⟩
  · exact absurd hn (h t (by omega))
theorem gb_less {b : Nat} (h : gbO Q s (some b)) (hr : Q s) (hl : pcN s < pcN b) : gbO Q (s + 1) (some s) := by
  refine ⟨Nat.lt_succ_self _, hr, fun t ht hn => ?_⟩
  by_cases e : t = s
  · rw [e]; exact Or.inr ⟨rfl, Nat.le_refl _⟩
  · have := h.2.2 t (by omega) hn
    exact Or.inl (by omega)
theorem gb_ge {b : Nat} (h : gbO Q s (some b)) (hl : pcN b ≤ pcN s) : gbO Q (s + 1) (some b) := by
  refine ⟨Nat.lt_succ_of_lt h.1, h.2.1, fun t ht hn => ?_⟩
  by_cases e : t = s
  · rw [e]
    have := h.1
    omega
  · exact h.2.2 t (by omega) hn
end GBO
theorem all_and {w s : Nat} (h : s < 2 ^ w) : (2 ^ w - 1) &&& s = s := by
  refine Nat.eq_of_testBit_eq fun i => ?_
  rw [Nat.testBit_and, Nat.testBit_two_pow_sub_one]
  cases e : s.testBit i with
  | false => rw [Bool.and_false]
  | true =>
    have : i < w := Nat.lt_of_not_le fun g => by
      rw [tb_no h g] at e
      cases e
    rw [decide_eq_true this]
    rfl
theorem aln : ∀ w, w ≤ 8 → ∀ t, t < 2 ^ w → nI (2 ^ w - 1) &&& (nI t ^^^ Int32.ofInt (-1)) = nI ((2 ^ w - 1) ^^^ t) := by decide +kernel
theorem all_x {w t : Nat} (h : t < 2 ^ w) : (2 ^ w - 1) ^^^ t < 2 ^ w := Nat.xor_lt_two_pow (by have := Nat.two_pow_pos w; omega) h
/-- what he does is of the set, and the others do the rest, p being away -/
def hgo (H : HS) (s p a : Nat) : Prop := a &&& s = a ∧ fit H a 24 ∧ rea H H.cd (aw1 H.pe p) H.pe ((2 ^ H.wo - 1) ^^^ a)
def hlp (H : HS) (s p : Nat) : Prop := ∃ a, a < 2 ^ H.wo ∧ hgo H s p a
def moQ (H : HS) (s : Nat) : Prop := ∀ p, p < H.pe → hlp H s p
def mrP (H : HS) (z : Int32) : Prop := ∃ v, z = brV v ∧ gbO (moQ H) (2 ^ H.wo) v
theorem mrP_u {H : HS} : ∀ y z, mrP H y → mrP H z → y = z := by
  rintro y z ⟨v, rfl, h⟩ ⟨v', rfl, h'⟩
  rw [gb_eq h h']
theorem z24 : (Int8.ofInt 24).toInt32 = nI 24 := by decide
theorem brV_m1 {v : Option Nat} (h : brV v = Int32.ofInt (-1)) (hv : ∀ b, v = some b → b < 2 ^ 31) : v = none := by
  cases v with
  | none => rfl
  | some b => exact absurd h (nI_nm1 (hv b rfl))
theorem mo_key {H : HS} {M : aM} (hI : HI H) (hS : SL H M) {f g : Int64} {s : Nat} (hs : s < 2 ^ H.wo) (hf : ∀ i, i < 64 → (bL f i = true ↔ ∃ p, p < H.pe ∧ i = aw1 H.pe p)) (hg : whO H M (2 ^ H.wo - 1) ((2 ^ H.wo - 1) &&& s) 24 g) : lg_cmp (g &&& f) f = 0 ↔ moQ H s := by
  have hp6 := hI.pe
  have p6 := pw_le hp6
  have wpos := Nat.two_pow_pos H.wo
  rw [all_and hs] at hg
  have ab : ∀ {u lf : Nat}, u < 2 ^ H.wo → lf < 2 ^ H.pe → (bL (lgV M 34 u) lf = true ↔ rea H H.cd lf H.pe u) := fun {u lf} hu hl => (hS.2.1 u hu lf (by omega)).trans ⟨fun h => h.2, fun h => ⟨hl, h⟩⟩
  have key : ∀ p, p < H.pe → (bL g (aw1 H.pe p) = true ↔ hlp H s p) := fun p hp => by
    have al := aw1_lt H.pe hp6 p hp
    rw [hg _ (by omega)]
    constructor
    · rintro (h | ⟨a, a0, a1, a2, a3⟩)
      · exact ⟨0, wpos, by rw [Nat.zero_and], fit_0, by rw [Nat.xor_zero]; exact (ab (by omega) al).mp h⟩
      · have as : a ≤ s := by rw [← a1]; exact Nat.and_le_right
        exact ⟨a, by omega, a1, a2, (ab (all_x (by omega)) al).mp a3⟩
    · rintro ⟨a, a0, a1, a2, a3⟩
      by_cases e : a = 0
      · subst e
        rw [Nat.xor_zero] at a3
        exact Or.inl ((ab (by omega) al).mpr a3)
      · exact Or.inr ⟨a, by omega, a1, a2, (ab (all_x a0) al).mpr a3⟩
  rw [lgc, bL_inc]
  constructor
  · intro h p hp
    have al := aw1_lt H.pe hp6 p hp
    exact (key p hp).mp (h _ (by omega) ((hf _ (by omega)).mpr ⟨p, hp, rfl⟩))
  · intro h i hi g1
    obtain ⟨p, hp, rfl⟩ := (hf i hi).mp g1
    exact (key p hp).mpr (h p hp)
section MOA
variable {l : aL} {M : aM} {H : HS}
theorem mora_c (hl0 : l.1.stackTraces = false) (hJ : JR RR M) (hI : HI H) (hH : cHo 4 H M) (hS : SL H M) {kc ks : Nat} : AC l (pI pg 30) (fcI M (fun y M' => M' = M ∧ mrP H y)) kc ks [.ref 0] SHF M := by
  have w8 := hI.2.1
  have P8 := p2_8 w8
  have wpos := Nat.two_pow_pos H.wo
  have hRL : ∀ e ∈ RL, M.2.2 e.1 e.2.1 = e.2.2 := fun e he => hJ.2 e (rl_RR e he)
  have hRM : ∀ e ∈ RM, M.2.2 e.1 e.2.1 = e.2.2 := fun e he => rgR_ok hJ.2 (okR_RR.1 e he)
  have hsl : ∀ t, sumL H H.wo t ≤ 64 := fun t => Nat.le_trans (sumL_le hI H.wo (Nat.le_refl _)) (by omega)
  refine fw_of hl0 ⟨by decide +kernel, by decide +kernel, by decide +kernel⟩ rfl ?_
  refine mora_0 hJ.2 hl0 _ (waoa_c hl0 hI hH) (fun _ M1 y M' => M' = M1 ∧ y = nI (2 ^ H.wo - 1)) (fun y1 M1 e1 q1 => ?_) (fun f M1 e1 q1 y3 M3 e3 q3 => ?_)
  · obtain ⟨rfl, -⟩ := q1
    exact alwa_c hl0 w8 hH.wo
  · obtain ⟨rfl, hf⟩ := q1
    obtain ⟨rfl, rfl⟩ := q3
    have loop : ∀ (d s : Nat) (v : Option Nat), s + d = 2 ^ H.wo → gbO (moQ H) s v → AW l (pI pg 30) (fcI M3 (fun y M' => M' = M3 ∧ mrP H y)) kc ks 22 [(5, .int (nI s)), (4, .int (brV v)), (3, .int (nI (2 ^ H.wo - 1))), (1, .long f), (0, .ref 0)] [] SHF M3 := by
      intro d
      induction d with
      | zero =>
        intro s v hs hx
        have es : s = 2 ^ H.wo := by omega
        subst es
        have lt : nI (2 ^ H.wo - 1) < nI (2 ^ H.wo) := by
          rw [nlt (by omega) (by omega)]
          omega
        exact mora_22 hJ.2 hl0 (fun _ => ⟨rfl, rfl, _, rfl, rfl, v, rfl, hx⟩) (fun _ _ => True) (fun h => absurd lt h) (fun h => absurd lt h) (fun h => absurd lt h) (fun _ _ => True) (fun h => absurd lt h) (fun _ _ _ _ => True) (fun h => absurd lt h) (fun h => absurd lt h) (fun _ _ _ _ _ _ => True) (fun h => absurd lt h) (fun h => absurd lt h) (fun h => absurd lt h)
      | succ d ih =>
        intro s v hs hx
        have sl : s < 2 ^ H.wo := by omega
        have nl : ¬ nI (2 ^ H.wo - 1) < nI s := by
          rw [nlt (by omega) (by omega)]
          omega
        have nx : nI s + Int32.ofInt 1 = nI (s + 1) := nI_1 s
        have pl : ∀ t, pcN t ≤ 8 := fun t => pcN_le8
        have wh := whe_c (l := l) (M := M3) (H := H) hl0 hRL w8 (fun t ht => (hS.1 t ht).1) hsl (t := 2 ^ H.wo - 1) (c := s) (m := 24) (by omega) (by omega) (by decide)
        refine mora_22 hJ.2 hl0 (fun h => absurd h nl) (fun g M' => M' = M3 ∧ whO H M3 (2 ^ H.wo - 1) ((2 ^ H.wo - 1) &&& s) 24 g) (fun _ h3 => by rw [z24]; exact wh) (fun _ h3 y5 M5 e5 q5 h7 => ?_) (fun _ h3 y5 M5 e5 q5 h7 => ?_) (fun y M' => M' = M3 ∧ y = nI (pcN s)) (fun _ h3 => c21 hl0 hRM (by omega)) (fun _ M10 y M' => M' = M10 ∧ ∃ b, v = some b ∧ y = nI (pcN b)) (fun _ h3 y10 M10 e10 q10 => ?_) (fun _ h3 y10 M10 e10 q10 y12 M12 e12 q12 h14 => ?_) (fun _ _ _ M12 g M' => M' = M12 ∧ whO H M3 (2 ^ H.wo - 1) ((2 ^ H.wo - 1) &&& s) 24 g) (fun _ h3 y10 M10 e10 q10 y12 M12 e12 q12 h14 => ?_) (fun _ h3 y10 M10 e10 q10 y12 M12 e12 q12 h14 y18 M18 e18 q18 h20 => ?_) (fun _ h3 y10 M10 e10 q10 y12 M12 e12 q12 h14 y18 M18 e18 q18 h20 => ?_)
        · obtain ⟨rfl, q5⟩ := q5
          rw [nx]
          exact ih (s + 1) v (by omega) (gb_keep hx (fun h => h7 ((mo_key hI hS sl hf q5).mpr h)))
        · obtain ⟨rfl, q5⟩ := q5
          rw [nx]
          have ev : v = none := brV_m1 h3 (fun b e => by
            subst e
            have := hx.1
            omega)
          subst ev
          exact ih (s + 1) (some s) (by omega) (gb_none hx ((mo_key hI hS sl hf q5).mp h7))
        · obtain ⟨rfl, -⟩ := q10
          cases v with
          | none => exact absurd rfl h3
          | some b =>
            have b1 := hx.1
            exact AC.post hl0 (fun r sh' M' hp => by
              obtain ⟨r1, r2, y, r3, r4, r5⟩ := hp
              exact ⟨r1, r2, y, r3, r4, b, rfl, r5⟩) (c21 hl0 hRM (by omega))
        · obtain ⟨rfl, rfl⟩ := q10
          obtain ⟨rfl, b, rfl, rfl⟩ := q12
          have u1 := pl b
          have u2 := pl s
          rw [nle (by omega) (by omega)] at h14
          rw [nx]
          exact ih (s + 1) (some b) (by omega) (gb_ge hx h14)
        · obtain ⟨rfl, -⟩ := q10
          obtain ⟨rfl, -⟩ := q12
          rw [z24]
          exact wh
        · obtain ⟨rfl, -⟩ := q10
          obtain ⟨rfl, -⟩ := q12
          obtain ⟨rfl, q18⟩ := q18
          rw [nx]
          exact ih (s + 1) v (by omega) (gb_keep hx (fun h => h20 ((mo_key hI hS sl hf q18).mpr h)))
        · obtain ⟨rfl, rfl⟩ := q10
          obtain ⟨rfl, b, rfl, rfl⟩ := q12
          obtain ⟨rfl, q18⟩ := q18
          have u1 := pl b
          have u2 := pl s
          rw [nle (by omega) (by omega)] at h14
          rw [nx]
          exact ih (s + 1) (some s) (by omega) (gb_less hx ((mo_key hI hS sl hf q18).mp h20) (by omega))
    exact loop (2 ^ H.wo) 0 none (by omega) (fun t ht => absurd ht (Nat.not_lt_zero _))
end MOA
section MOB
variable {l : aL} {M : aM} {H : HS}
theorem morb_c (hl0 : l.1.stackTraces = false) (hJ : JR RRS M) (hI : HI H) (hH : cHo 17 H M) (hS : SL H M) {kc ks : Nat} : AC l (pI pg 30) (fcI M (fun y M' => M' = M ∧ mrP H y)) kc ks [.ref 0] SHF M := by
  have w8 := hI.2.1
  have P8 := p2_8 w8
  have wpos := Nat.two_pow_pos H.wo
  have hRL : ∀ e ∈ RL, M.2.2 e.1 e.2.1 = e.2.2 := fun e he => hJ.2 e (rl_RRS e he)
  have hRM : ∀ e ∈ RM, M.2.2 e.1 e.2.1 = e.2.2 := fun e he => rgR_ok hJ.2 (okR_RRS.1 e he)
  have hsl : ∀ t, sumL H H.wo t ≤ 64 := fun t => Nat.le_trans (sumL_le hI H.wo (Nat.le_refl _)) (by omega)
  refine fw_of hl0 ⟨by decide +kernel, by decide +kernel, by decide +kernel⟩ rfl ?_
  refine morb_0 hJ.2 hl0 _ (waob_c hl0 hI hH) (fun _ M1 y M' => M' = M1 ∧ y = nI (2 ^ H.wo - 1)) (fun y1 M1 e1 q1 => ?_) (fun f M1 e1 q1 y3 M3 e3 q3 => ?_)
  · obtain ⟨rfl, -⟩ := q1
    exact alwb_c hl0 w8 hH.wo
  · obtain ⟨rfl, hf⟩ := q1
    obtain ⟨rfl, rfl⟩ := q3
    have loop : ∀ (d s : Nat) (v : Option Nat), s + d = 2 ^ H.wo → gbO (moQ H) s v → AW l (pI pg 30) (fcI M3 (fun y M' => M' = M3 ∧ mrP H y)) kc ks 22 [(5, .int (nI s)), (4, .int (brV v)), (3, .int (nI (2 ^ H.wo - 1))), (1, .long f), (0, .ref 0)] [] SHF M3 := by
      intro d
      induction d with
      | zero =>
        intro s v hs hx
        have es : s = 2 ^ H.wo := by omega
        subst es
        have lt : nI (2 ^ H.wo - 1) < nI (2 ^ H.wo) := by
          rw [nlt (by omega) (by omega)]
          omega
        exact morb_22 hJ.2 hl0 (fun _ => ⟨rfl, rfl, _, rfl, rfl, v, rfl, hx⟩) (fun _ _ => True) (fun h => absurd lt h) (fun h => absurd lt h) (fun h => absurd lt h) (fun _ _ => True) (fun h => absurd lt h) (fun _ _ _ _ => True) (fun h => absurd lt h) (fun h => absurd lt h) (fun _ _ _ _ _ _ => True) (fun h => absurd lt h) (fun h => absurd lt h) (fun h => absurd lt h)
      | succ d ih =>
        intro s v hs hx
        have sl : s < 2 ^ H.wo := by omega
        have nl : ¬ nI (2 ^ H.wo - 1) < nI s := by
          rw [nlt (by omega) (by omega)]
          omega
        have nx : nI s + Int32.ofInt 1 = nI (s + 1) := nI_1 s
        have pl : ∀ t, pcN t ≤ 8 := fun t => pcN_le8
        have wh := whe_c (l := l) (M := M3) (H := H) hl0 hRL w8 (fun t ht => (hS.1 t ht).1) hsl (t := 2 ^ H.wo - 1) (c := s) (m := 24) (by omega) (by omega) (by decide)
        refine morb_22 hJ.2 hl0 (fun h => absurd h nl) (fun g M' => M' = M3 ∧ whO H M3 (2 ^ H.wo - 1) ((2 ^ H.wo - 1) &&& s) 24 g) (fun _ h3 => by rw [z24]; exact wh) (fun _ h3 y5 M5 e5 q5 h7 => ?_) (fun _ h3 y5 M5 e5 q5 h7 => ?_) (fun y M' => M' = M3 ∧ y = nI (pcN s)) (fun _ h3 => c21 hl0 hRM (by omega)) (fun _ M10 y M' => M' = M10 ∧ ∃ b, v = some b ∧ y = nI (pcN b)) (fun _ h3 y10 M10 e10 q10 => ?_) (fun _ h3 y10 M10 e10 q10 y12 M12 e12 q12 h14 => ?_) (fun _ _ _ M12 g M' => M' = M12 ∧ whO H M3 (2 ^ H.wo - 1) ((2 ^ H.wo - 1) &&& s) 24 g) (fun _ h3 y10 M10 e10 q10 y12 M12 e12 q12 h14 => ?_) (fun _ h3 y10 M10 e10 q10 y12 M12 e12 q12 h14 y18 M18 e18 q18 h20 => ?_) (fun _ h3 y10 M10 e10 q10 y12 M12 e12 q12 h14 y18 M18 e18 q18 h20 => ?_)
        · obtain ⟨rfl, q5⟩ := q5
          rw [nx]
          exact ih (s + 1) v (by omega) (gb_keep hx (fun h => h7 ((mo_key hI hS sl hf q5).mpr h)))
        · obtain ⟨rfl, q5⟩ := q5
          rw [nx]
          have ev : v = none := brV_m1 h3 (fun b e => by
            subst e
            have := hx.1
            omega)
          subst ev
          exact ih (s + 1) (some s) (by omega) (gb_none hx ((mo_key hI hS sl hf q5).mp h7))
        · obtain ⟨rfl, -⟩ := q10
          cases v with
          | none => exact absurd rfl h3
          | some b =>
            have b1 := hx.1
            exact AC.post hl0 (fun r sh' M' hp => by
              obtain ⟨r1, r2, y, r3, r4, r5⟩ := hp
              exact ⟨r1, r2, y, r3, r4, b, rfl, r5⟩) (c21 hl0 hRM (by omega))
        · obtain ⟨rfl, rfl⟩ := q10
          obtain ⟨rfl, b, rfl, rfl⟩ := q12
          have u1 := pl b
          have u2 := pl s
          rw [nle (by omega) (by omega)] at h14
          rw [nx]
          exact ih (s + 1) (some b) (by omega) (gb_ge hx h14)
        · obtain ⟨rfl, -⟩ := q10
          obtain ⟨rfl, -⟩ := q12
          rw [z24]
          exact wh
        · obtain ⟨rfl, -⟩ := q10
          obtain ⟨rfl, -⟩ := q12
          obtain ⟨rfl, q18⟩ := q18
          rw [nx]
          exact ih (s + 1) v (by omega) (gb_keep hx (fun h => h20 ((mo_key hI hS sl hf q18).mpr h)))
        · obtain ⟨rfl, rfl⟩ := q10
          obtain ⟨rfl, b, rfl, rfl⟩ := q12
          obtain ⟨rfl, q18⟩ := q18
          have u1 := pl b
          have u2 := pl s
          rw [nle (by omega) (by omega)] at h14
          rw [nx]
          exact ih (s + 1) (some s) (by omega) (gb_less hx ((mo_key hI hS sl hf q18).mp h20) (by omega))
    exact loop (2 ^ H.wo) 0 none (by omega) (fun t ht => absurd ht (Nat.not_lt_zero _))
end MOB
section MOR
variable {l : aL} {M : aM} {H : HS} {R : sR}
/-- which sets the others can do, p being away -/
def otO (H : HS) (p s : Nat) (M : aM) : Prop := (M.1 82 (256 * p + s) = nI 1 ∧ rea H H.cd (aw1 H.pe p) H.pe s) ∨ (M.1 82 (256 * p + s) = nI 0 ∧ ¬ rea H H.cd (aw1 H.pe p) H.pe s)
theorem mmr_c (hl0 : l.1.stackTraces = false) (hO : okR R) (hk : cOk l pg R SHF en_98) (w0 : wcF R.1 58 0 (0, 2) = true) (hJ : JR R M) (hI : HI H) (hm : mHo H M) : AC l (pI pg 227) (fcI M (fun z M' => M'.1 58 0 = 0 ∧ mrP H z)) 0 0 [.ref 58] SHF M := by
  have w8 := hI.2.1
  have hp6 := hI.pe
  have p6 := pw_le hp6
  have P8 := p2_8 w8
  have wpos := Nat.two_pow_pos H.wo
  have hR : ∀ e ∈ RM, M.2.2 e.1 e.2.1 = e.2.2 := fun e he => rgR_ok hJ.2 (hO.1 e he)
  have m0 : mHo H (M0w M) := mH_fr0 hm
  have j0 : JR R (M0w M) := JR_set (q := (0, 2)) hJ w0 ⟨by decide, by decide⟩
  refine fw_of hl0 ⟨by decide +kernel, by decide +kernel, by decide +kernel⟩ rfl ?_
  refine mmr_0 hR hl0 (fun M' => JR R M' ∧ QlA H 0 (M0w M) M') (lal_j hl0 hk hR j0 hI m0) (fun M1 M' => Q209 M1 M') (fun M1 e1 q1 => c209 hl0 (fun e he => rgR_ok q1.1.2 (hO.1 e he))) (fun M1 e1 q1 M3 e3 q3 => ?_)
  have b1 : M1.1 58 1 = nI H.pe := (q1.2.2 58 1 (by decide) (by decide) (by decide)).trans m0.1
  have b2 : M1.1 58 2 = nI H.wo := (q1.2.2 58 2 (by decide) (by decide) (by decide)).trans m0.2.1
  have e22 : M3.2.2 = M.2.2 := e3.trans e1
  rw [show M3.1 58 2 = nI H.wo from (q3.2.2 58 2 (by decide)).trans b2, fullW w8]
  have fR : ∀ {Mc : aM}, Mc.2.2 = M.2.2 → ∀ e ∈ RM, Mc.2.2 e.1 e.2.1 = e.2.2 := fun {Mc} h => by rw [h]; exact hR
  have last : ∀ (Mc : aM), Mc.2.2 = M.2.2 → (∀ a k, a ≠ 76 → a ≠ 77 → a ≠ 78 → a ≠ 82 → Mc.1 a k = M1.1 a k) → (∀ p, p < H.pe → ∀ s, s < 2 ^ H.wo → otO H p s Mc) → AW l (pI pg 227) (fcI M (fun z M' => M'.1 58 0 = 0 ∧ mrP H z)) 0 0 101 [(3, .int (Int32.ofInt 0)), (2, .int (Int32.ofInt (-1))), (1, .int (nI (2 ^ H.wo - 1))), (0, .ref 58)] [] SHF Mc := by
    intro Mc g1 g2 g3
    have c0 : Mc.1 58 0 = 0 := (g2 58 0 (by decide) (by decide) (by decide) (by decide)).trans ((q1.2.2 58 0 (by decide) (by decide) (by decide)).trans rfl)
    have c1 : Mc.1 58 1 = nI H.pe := (g2 58 1 (by decide) (by decide) (by decide) (by decide)).trans b1
    have mc : mHo H Mc := mH_fr m0 (fun k => (g2 58 k (by decide) (by decide) (by decide) (by decide)).trans (q1.2.2 58 k (by decide) (by decide) (by decide))) (fun a k a1 a2 => (g2 a k (by omega) (by omega) (by omega) (by omega)).trans (q1.2.2 a k (by omega) (by omega) (by omega)))
    have loop : ∀ (d s : Nat) (v : Option Nat), s + d = 2 ^ H.wo → gbO (moQ H) s v → AW l (pI pg 227) (fcI M (fun z M' => M'.1 58 0 = 0 ∧ mrP H z)) 0 0 101 [(3, .int (nI s)), (2, .int (brV v)), (1, .int (nI (2 ^ H.wo - 1))), (0, .ref 58)] [] SHF Mc := by
      intro d
      induction d with
      | zero =>
        intro s v hs hx
        have es : s = 2 ^ H.wo := by omega
        subst es
        have lt : nI (2 ^ H.wo - 1) < nI (2 ^ H.wo) := by
          rw [nlt (by omega) (by omega)]
          omega
        exact mmr_101 (fR g1) hl0 (fun _ => ⟨rfl, g1, _, rfl, c0, v, rfl, hx⟩) (fun h => absurd lt h) (fun _ _ => True) (fun h => absurd lt h) (fun _ _ _ _ => True) (fun h => absurd lt h) (fun h => absurd lt h) (fun h => absurd lt h)
      | succ d ih =>
        intro s v hs hx
        have sl : s < 2 ^ H.wo := by omega
        have nl : ¬ nI (2 ^ H.wo - 1) < nI s := by
          rw [nlt (by omega) (by omega)]
          omega
        have nx : nI s + Int32.ofInt 1 = nI (s + 1) := nI_1 s
        have pl : ∀ t, pcN t ≤ 8 := fun t => pcN_le8
        have z0 : (Int32.ofInt 0 : Int32) = 0 := by decide
        have z1 : ¬ (Int32.ofInt 1 : Int32) = 0 := by decide
        have mid : (moQ H s → gbO (moQ H) (s + 1) (some s)) → ∀ (d2 p : Nat), p + d2 = H.pe → ∀ g : Int32, ((g = Int32.ofInt 1 ∧ ∀ q, q < p → hlp H s q) ∨ (g = Int32.ofInt 0 ∧ ¬ moQ H s)) → AW l (pI pg 227) (fcI M (fun z M' => M'.1 58 0 = 0 ∧ mrP H z)) 0 0 131 [(5, .int (nI p)), (4, .int g), (3, .int (nI s)), (2, .int (brV v)), (1, .int (nI (2 ^ H.wo - 1))), (0, .ref 58)] [] SHF Mc := by
          intro hb d2
          have no : ∀ {g : Int32} {p : Nat}, g = 0 → ((g = Int32.ofInt 1 ∧ ∀ q, q < p → hlp H s q) ∨ (g = Int32.ofInt 0 ∧ ¬ moQ H s)) → AW l (pI pg 227) (fcI M (fun z M' => M'.1 58 0 = 0 ∧ mrP H z)) 0 0 101 [(3, .int (nI s + Int32.ofInt 1)), (2, .int (brV v)), (1, .int (nI (2 ^ H.wo - 1))), (0, .ref 58)] [] SHF Mc := by
            intro g p g0 hg
            have nq := (hg.resolve_left (fun q => absurd (q.1.symm.trans g0) z1)).2
            rw [nx]
            exact ih (s + 1) v (by omega) (gb_keep hx nq)
          induction d2 with
          | zero =>
            intro p hp g hg
            have ep : p = H.pe := by omega
            subst ep
            have le : Mc.1 58 1 ≤ nI H.pe := by rw [c1]; exact Int32.le_refl _
            refine mmr_131 (fR g1) hl0 (fun _ h2 => no h2 hg) (fun _ h2 => ?_) (fun h => absurd le h) (fun h => absurd le h) (fun h => absurd le h)
            have mq := (hg.resolve_right (fun q => h2 (q.1.trans z0))).2
            rw [nx]
            exact ih (s + 1) (some s) (by omega) (hb mq)
          | succ d2 ih2 =>
            intro p hp g hg
            have ng : ¬ Mc.1 58 1 ≤ nI p := by
              rw [c1, nle (by omega) (by omega)]
              omega
            refine mmr_131 (fR g1) hl0 (fun h => absurd h ng) (fun h => absurd h ng) (fun _ h5 _ => no h5 hg) (fun _ h5 h6 => absurd h5 h6) (fun _ h5 => ?_)
            have before := (hg.resolve_right (fun q => h5 (q.1.trans z0))).2
            have inner : ∀ (d3 t : Nat), t + d3 = 2 ^ H.wo → ∀ g : Int32, ((g = Int32.ofInt 1 ∧ hlp H s p) ∨ (g = Int32.ofInt 0 ∧ ∀ a, a < t → ¬ hgo H s p a)) → AW l (pI pg 227) (fcI M (fun z M' => M'.1 58 0 = 0 ∧ mrP H z)) 0 0 151 [(6, .int (nI t)), (5, .int (nI p)), (4, .int g), (3, .int (nI s)), (2, .int (brV v)), (1, .int (nI (2 ^ H.wo - 1))), (0, .ref 58)] [] SHF Mc := by
              intro d3
              have yes : hlp H s p → AW l (pI pg 227) (fcI M (fun z M' => M'.1 58 0 = 0 ∧ mrP H z)) 0 0 131 [(5, .int (nI p + Int32.ofInt 1)), (4, .int (Int32.ofInt 1)), (3, .int (nI s)), (2, .int (brV v)), (1, .int (nI (2 ^ H.wo - 1))), (0, .ref 58)] [] SHF Mc := by
                intro hp1
                rw [show nI p + Int32.ofInt 1 = nI (p + 1) from nI_1 p]
                refine ih2 (p + 1) (by omega) _ (Or.inl ⟨rfl, fun q hq => ?_⟩)
                by_cases e : q = p
                · subst e
                  exact hp1
                · exact before q (by omega)
              induction d3 with
              | zero =>
                intro t ht g hg
                have et : t = 2 ^ H.wo := by omega
                subst et
                have lt : nI (2 ^ H.wo - 1) < nI (2 ^ H.wo) := by
                  rw [nlt (by omega) (by omega)]
                  omega
                refine mmr_151 (fR g1) hl0 (fun _ => ?_) (fun h => absurd lt h) (fun h => absurd lt h) (fun h => absurd lt h) (fun h => absurd lt h) (fun _ _ => True) (fun h => absurd lt h) (fun h => absurd lt h) (fun h => absurd lt h)
                rcases hg with ⟨rfl, h1⟩ | ⟨rfl, h1⟩
                · exact yes h1
                · rw [show nI p + Int32.ofInt 1 = nI (p + 1) from nI_1 p]
                  refine ih2 (p + 1) (by omega) _ (Or.inr ⟨rfl, fun h => ?_⟩)
                  obtain ⟨a, a1, a2⟩ := h p (by omega)
                  exact h1 a a1 a2
              | succ d3 ih3 =>
                intro t ht g hg
                have tl : t < 2 ^ H.wo := by omega
                have nlt2 : ¬ nI (2 ^ H.wo - 1) < nI t := by
                  rw [nlt (by omega) (by omega)]
                  omega
                have nt : nI t + Int32.ofInt 1 = nI (t + 1) := nI_1 t
                have xl := all_x tl
                have ix : (Int16.ofInt 256).toInt32 * nI p + (nI (2 ^ H.wo - 1) &&& (nI t ^^^ Int32.ofInt (-1))) = nI (256 * p + ((2 ^ H.wo - 1) ^^^ t)) := by
                  rw [aln H.wo w8 t tl, z_256, nI_mulN, nI_add]
                have ci : (nI (256 * p + ((2 ^ H.wo - 1) ^^^ t))).toNatClampNeg = 256 * p + ((2 ^ H.wo - 1) ^^^ t) := nI_clamp (by omega)
                have ot := g3 p (by omega) _ xl
                have next0 : g = 0 → ¬ hgo H s p t → AW l (pI pg 227) (fcI M (fun z M' => M'.1 58 0 = 0 ∧ mrP H z)) 0 0 151 [(6, .int (nI t + Int32.ofInt 1)), (5, .int (nI p)), (4, .int (Int32.ofInt 0)), (3, .int (nI s)), (2, .int (brV v)), (1, .int (nI (2 ^ H.wo - 1))), (0, .ref 58)] [] SHF Mc := by
                  intro g0 hn
                  have hl := (hg.resolve_left (fun q => absurd (q.1.symm.trans g0) z1)).2
                  rw [nt]
                  refine ih3 (t + 1) (by omega) _ (Or.inr ⟨rfl, fun a ha => ?_⟩)
                  by_cases e : a = t
                  · subst e
                    exact hn
                  · exact hl a (by omega)
                refine mmr_151 (fR g1) hl0 (fun h => absurd h nlt2) (fun _ h3 => ?_) (fun _ h3 h5 => next0 h3 (fun q => h5 ((and_nt t (by omega) s (by omega)).mpr q.1))) (fun _ h3 h5 => by rw [ix]; exact vp_in_nI (by omega) (by decide)) (fun _ h3 h5 h8 => next0 h3 (fun q => ?_)) (fun y M' => M' = Mc ∧ ((y = Int32.ofInt 1 ∧ fit H t 24) ∨ (y = Int32.ofInt 0 ∧ ¬ fit H t 24))) (fun _ h3 h5 h8 => by rw [z24]; exact fts_c hl0 (fR g1) hI mc (by omega) (by decide)) (fun _ h3 h5 h8 y10 M10 e10 q10 h12 => ?_) (fun _ h3 h5 h8 y10 M10 e10 q10 h12 => ?_)
                · rcases hg with ⟨rfl, h1⟩ | ⟨rfl, -⟩
                  · exact yes h1
                  · exact absurd z0 h3
                · rw [ix, ci] at h8
                  rcases ot with ⟨o1, -⟩ | ⟨-, o2⟩
                  · rw [o1] at h8
                    exact absurd h8 (by decide)
                  · exact o2 q.2.2
                · obtain ⟨rfl, q10⟩ := q10
                  exact next0 h3 (fun q => (q10.resolve_left (fun z => absurd (z.1.symm.trans h12) z1)).2 q.2.1)
                · obtain ⟨rfl, q10⟩ := q10
                  rw [ix, ci] at h8
                  have ft := (q10.resolve_right (fun z => h12 (z.1.trans z0))).2
                  have re := (ot.resolve_right (fun z => h8 z.1)).2
                  rw [nt]
                  exact ih3 (t + 1) (by omega) _ (Or.inl ⟨rfl, t, tl, (and_nt t (by omega) s (by omega)).mp h5, ft, re⟩)
            exact inner (2 ^ H.wo) 0 (by omega) _ (Or.inr ⟨rfl, fun a h => absurd h (Nat.not_lt_zero _)⟩)
        refine mmr_101 (fR g1) hl0 (fun h => absurd h nl) (fun _ h3 => ?_) (fun y M' => M' = Mc ∧ y = nI (pcN s)) (fun _ h3 => bts_c hl0 (by omega)) (fun _ M5 y M' => M' = M5 ∧ ∃ b, v = some b ∧ y = nI (pcN b)) (fun _ h3 y5 M5 e5 q5 => ?_) (fun _ h3 y5 M5 e5 q5 y7 M7 e7 q7 h9 => ?_) (fun _ h3 y5 M5 e5 q5 y7 M7 e7 q7 h9 => ?_)
        · have ev : v = none := brV_m1 h3 (fun b e => by
            subst e
            have := hx.1
            omega)
          subst ev
          exact mid (fun q => gb_none hx q) H.pe 0 (by omega) _ (Or.inl ⟨rfl, fun q h => absurd h (Nat.not_lt_zero _)⟩)
        · obtain ⟨rfl, -⟩ := q5
          cases v with
          | none => exact absurd rfl h3
          | some b =>
            have b1 := hx.1
            exact AC.post hl0 (fun r sh' M' hp => by
              obtain ⟨r1, r2, y, r3, r4, r5⟩ := hp
              exact ⟨r1, r2, y, r3, r4, b, rfl, r5⟩) (bts_c hl0 (by omega))
        · obtain ⟨rfl, rfl⟩ := q5
          obtain ⟨rfl, b, rfl, rfl⟩ := q7
          have u1 := pl b
          have u2 := pl s
          rw [nlt (by omega) (by omega)] at h9
          exact mid (fun q => gb_less hx q h9) H.pe 0 (by omega) _ (Or.inl ⟨rfl, fun q h => absurd h (Nat.not_lt_zero _)⟩)
        · obtain ⟨rfl, rfl⟩ := q5
          obtain ⟨rfl, b, rfl, rfl⟩ := q7
          have u1 := pl b
          have u2 := pl s
          rw [nlt (by omega) (by omega)] at h9
          rw [nx]
          exact ih (s + 1) (some b) (by omega) (gb_ge hx (by omega))
    exact loop (2 ^ H.wo) 0 none (by omega) (fun t ht => absurd ht (Nat.not_lt_zero _))
  have first : ∀ (d p : Nat) (Mc : aM), p + d = H.pe → Mc.2.2 = M.2.2 → (∀ a k, a ≠ 76 → a ≠ 77 → a ≠ 78 → a ≠ 82 → Mc.1 a k = M1.1 a k) → (∀ k, k < 8 → Mc.1 76 k = Int32.ofInt (-1)) → (∀ q, q < p → ∀ s, s < 2 ^ H.wo → otO H q s Mc) → AW l (pI pg 227) (fcI M (fun z M' => M'.1 58 0 = 0 ∧ mrP H z)) 0 0 25 [(2, .int (nI p)), (1, .int (nI (2 ^ H.wo - 1))), (0, .ref 58)] [] SHF Mc := by
    intro d
    induction d with
    | zero =>
      intro p Mc hp g1 g2 g3 g4
      have ep : p = H.pe := by omega
      subst ep
      have le : Mc.1 58 1 ≤ nI H.pe := by rw [g2 58 1 (by decide) (by decide) (by decide) (by decide), b1]; exact Int32.le_refl _
      exact mmr_25 (fR g1) hl0 (fun _ => last Mc g1 g2 g4) (fun _ => True) (fun h => absurd le h) (fun h => absurd le h)
    | succ d ih =>
      intro p Mc hp g1 g2 g3 g4
      have c1 : Mc.1 58 1 = nI H.pe := (g2 58 1 (by decide) (by decide) (by decide) (by decide)).trans b1
      have ng : ¬ Mc.1 58 1 ≤ nI p := by
        rw [c1, nle (by omega) (by omega)]
        omega
      have al := aw1_lt H.pe hp6 p (by omega)
      obtain ⟨d1, d2⟩ := mdl_of (left := aw1 H.pe p) hO q1.1 (by omega)
      have eN : (M1.1 58 1).toInt.toNat = H.pe := by rw [b1, nI_toInt (by omega)]; rfl
      have eW : dW (mkD M1 (aw1 H.pe p)) = H.wo := by
        show (M1.1 58 2).toInt.toNat = H.wo
        rw [b2, nI_toInt (by omega)]
        rfl
      rw [eN] at d1 d2
      have hmd : mdl Mc H.pe (mkD M1 (aw1 H.pe p)) (rwI Mc 76) := ⟨fR g1, (g2 58 2 (by decide) (by decide) (by decide) (by decide)).trans d1.2.1, (g2 58 1 (by decide) (by decide) (by decide) (by decide)).trans d1.2.2.1, fun q k => (g2 73 _ (by decide) (by decide) (by decide) (by decide)).trans (d1.2.2.2.1 q k), fun q => (g2 74 q (by decide) (by decide) (by decide) (by decide)).trans (d1.2.2.2.2.1 q), fun q w => by
        rw [g2 75 _ (by decide) (by decide) (by decide) (by decide)]
        exact d1.2.2.2.2.2.1 q w, fun w => rfl⟩
      refine mmr_25 (fR g1) hl0 (fun h => absurd h ng) (Q210 H.pe (mkD M1 (aw1 H.pe p)) (rwI Mc 76) Mc) (fun _ => ?_) (fun _ M3' e3' q3' => ?_)
      · rw [c1, fullW (by omega), aw1_m H.pe hp6 p (by omega)]
        exact c210 hl0 hmd d2
      · have key : ∀ {t : Nat}, t < 2 ^ H.wo → (rwI M3' 77 t ≠ -1 ↔ rea H H.cd (aw1 H.pe p) H.pe t) := fun {t} ht => by
          have := Best_rea (H := H) (cd := fun p => cdT H 0 p H.te) (lf := aw1 H.pe p) eW (fun w hw => by
            have := g3 w (by omega)
            show (Mc.1 76 w).toInt = -1
            rw [this]
            rfl) rfl (lsAll_hL w8 q1.2.1) q3'.1 ht
          rw [cd_fun] at this
          exact this
        have h1' : M3'.2.2 = M.2.2 := e3'.trans g1
        have second : ∀ (d2 s : Nat) (Mc' : aM), s + d2 = 2 ^ H.wo → Mc'.2.2 = M.2.2 → (∀ a k, a ≠ 82 → Mc'.1 a k = M3'.1 a k) → (∀ k, k < 256 * p → Mc'.1 82 k = M3'.1 82 k) → (∀ t, t < s → otO H p t Mc') → AW l (pI pg 227) (fcI M (fun z M' => M'.1 58 0 = 0 ∧ mrP H z)) 0 0 53 [(3, .int (nI s)), (2, .int (nI p)), (1, .int (nI (2 ^ H.wo - 1))), (0, .ref 58)] [] SHF Mc' := by
          intro d2
          induction d2 with
          | zero =>
            intro s Mc' hs k1 k2 k3 k4
            have es : s = 2 ^ H.wo := by omega
            subst es
            have lt : nI (2 ^ H.wo - 1) < nI (2 ^ H.wo) := by
              rw [nlt (by omega) (by omega)]
              omega
            refine mmr_53 (fR k1) hl0 (fun _ => ?_) (fun h => absurd lt h) (fun h => absurd lt h) (fun h => absurd lt h) (fun h => absurd lt h) (fun h => absurd lt h)
            rw [show nI p + Int32.ofInt 1 = nI (p + 1) from nI_1 p]
            refine ih (p + 1) Mc' (by omega) k1 (fun a k a1 a2 a3 a4 => (k2 a k a4).trans ((q3'.2.2 a k a2 a3).trans (g2 a k a1 a2 a3 a4))) (fun k hk => (k2 76 k (by decide)).trans ((q3'.2.2 76 k (by decide) (by decide)).trans (g3 k hk))) (fun q hq s hs => ?_)
            by_cases e : q = p
            · subst e
              exact k4 s hs
            · have e82 : Mc'.1 82 (256 * q + s) = Mc.1 82 (256 * q + s) := (k3 _ (by omega)).trans (q3'.2.2 82 _ (by decide) (by decide))
              unfold otO
              rw [e82]
              exact g4 q (by omega) s hs
          | succ d2 ih2 =>
            intro s Mc' hs k1 k2 k3 k4
            have sl : s < 2 ^ H.wo := by omega
            have nl : ¬ nI (2 ^ H.wo - 1) < nI s := by
              rw [nlt (by omega) (by omega)]
              omega
            have cs : (nI s).toNatClampNeg = s := nI_clamp (by omega)
            have ix : (Int16.ofInt 256).toInt32 * nI p + nI s = nI (256 * p + s) := by rw [z_256, nI_mulN, nI_add]
            have ci : (nI (256 * p + s)).toNatClampNeg = 256 * p + s := nI_clamp (by omega)
            have vp : vp_in ((Int16.ofInt 256).toInt32 * nI p + nI s) 1536 := by rw [ix]; exact vp_in_nI (by omega) (by decide)
            have e77 : Mc'.1 77 s = M3'.1 77 s := k2 77 s (by decide)
            have go : ∀ (x : Int32), ((x = nI 1 ∧ rea H H.cd (aw1 H.pe p) H.pe s) ∨ (x = nI 0 ∧ ¬ rea H H.cd (aw1 H.pe p) H.pe s)) → AW l (pI pg 227) (fcI M (fun z M' => M'.1 58 0 = 0 ∧ mrP H z)) 0 0 53 [(3, .int (nI (s + 1))), (2, .int (nI p)), (1, .int (nI (2 ^ H.wo - 1))), (0, .ref 58)] [] SHF (aset Mc' 82 (256 * p + s) (.int x)) := by
              intro x hx
              refine ih2 (s + 1) _ (by omega) k1 (fun a k ha => ?_) (fun k hk => ?_) (fun t ht => ?_)
              · rw [set_1, if_neg ha]
                exact k2 a k ha
              · rw [set_1, if_pos rfl, if_neg (by omega)]
                exact k3 k hk
              · by_cases e : t = s
                · subst e
                  unfold otO
                  rw [set_1, if_pos rfl, if_pos rfl]
                  exact hx
                · have := k4 t (by omega)
                  unfold otO at this ⊢
                  rw [set_1, if_pos rfl, if_neg (by omega)]
                  exact this
            refine mmr_53 (fR k1) hl0 (fun h => absurd h nl) (fun _ => vp_in_nI (by omega) (by decide)) (fun _ _ => vp) (fun _ h4 => ?_) (fun _ _ => vp) (fun _ h4 => ?_)
            · rw [cs, e77] at h4
              rw [ix, ci, show nI s + Int32.ofInt 1 = nI (s + 1) from nI_1 s]
              exact go _ (Or.inr ⟨by decide, fun h => (key sl).mpr h (i_m1.mp h4)⟩)
            · rw [cs, e77] at h4
              rw [ix, ci, show nI s + Int32.ofInt 1 = nI (s + 1) from nI_1 s]
              exact go _ (Or.inl ⟨by decide, (key sl).mp (fun h => h4 (i_m1.mpr h))⟩)
        exact second (2 ^ H.wo) 0 M3' (by omega) h1' (fun _ _ _ => rfl) (fun _ _ => rfl) (fun t ht => absurd ht (Nat.not_lt_zero _))
  exact first H.pe 0 M3 (by omega) e22 (fun a k a1 _ _ _ => q3.2.2 a k a1) q3.1 (fun q h => absurd h (Nat.not_lt_zero _))
end MOR
