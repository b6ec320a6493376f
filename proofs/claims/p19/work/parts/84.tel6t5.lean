/-! WORTH -/
section WOP
variable {H : HS} {cd : Nat → Nat}
theorem mx_ex {lf N : Nat} : ∀ s, ∃ v, v ≤ 8 ∧ mxO H cd lf N s v
  | 0 => ⟨0, by decide, Or.inl rfl, fun t ht => absurd ht (Nat.not_lt_zero _)⟩
  | s + 1 => by
    obtain ⟨v, v8, h1, h2⟩ := mx_ex (lf := lf) (N := N) s
    have keep : (rea H cd lf N s → pcN s ≤ v) → ∃ v, v ≤ 8 ∧ mxO H cd lf N (s + 1) v := fun hk => ⟨v, v8, h1.imp id (fun ⟨t, a, b⟩ => ⟨t, by omega, b⟩), fun t ht hr => by
      by_cases e : t = s
      · subst e
        exact hk hr
      · exact h2 t (by omega) hr⟩
    by_cases hr : rea H cd lf N s
    · by_cases hv : pcN s ≤ v
      · exact keep (fun _ => hv)
      · refine ⟨pcN s, pcN_le8, Or.inr ⟨s, by omega, hr, rfl⟩, fun t ht hr => ?_⟩
        by_cases e : t = s
        · subst e
          exact Nat.le_refl _
        · have := h2 t (by omega) hr
          omega
    · exact keep (fun h => absurd h hr)
theorem rea_up {lf q : Nat} : ∀ {p t : Nat}, rea H cd lf p t → rea H cd (lf ||| 2 ^ q) p t
  | 0, _, h => h
  | p + 1, t, h => by
    rcases h with ⟨h1, s, a, h2, h3, h4, h5, h6, h7⟩ | ⟨h1, h2⟩
    · exact Or.inl ⟨by rw [Nat.testBit_or, h1, Bool.true_or], s, a, h2, h3, h4, h5, h6, rea_up h7⟩
    · cases e : (lf ||| 2 ^ q).testBit p with
      | false => exact Or.inr ⟨e, rea_up h2⟩
      | true => exact Or.inl ⟨e, t, 0, Nat.two_pow_pos _, fun w hw => (by rw [Nat.zero_testBit] at hw; cases hw), fit_0, Nat.and_zero _, Nat.or_zero _, rea_up h2⟩
noncomputable def mxV (H : HS) (lf : Nat) : Nat := Classical.epsilon (fun v => mxO H H.cd lf H.pe (2 ^ H.wo) v)
theorem mxV_is {lf v : Nat} (h : mxO H H.cd lf H.pe (2 ^ H.wo) v) : mxV H lf = v := mxO_eq (Classical.epsilon_spec (p := fun v => mxO H H.cd lf H.pe (2 ^ H.wo) v) ⟨v, h⟩) h
theorem mxV_s {lf : Nat} : mxV H lf ≤ 8 ∧ mxO H H.cd lf H.pe (2 ^ H.wo) (mxV H lf) := by
  obtain ⟨v, v8, h⟩ := mx_ex (H := H) (cd := H.cd) (lf := lf) (N := H.pe) (2 ^ H.wo)
  rw [mxV_is h]
  exact ⟨v8, h⟩
theorem mxV_up {lf q : Nat} : mxV H lf ≤ mxV H (lf ||| 2 ^ q) := by
  have h1 := (mxV_s (H := H) (lf := lf)).2
  have h2 := (mxV_s (H := H) (lf := lf ||| 2 ^ q)).2
  rcases h1.1 with e | ⟨t, t1, t2, t3⟩
  · omega
  · have := h2.2 t t1 (rea_up t2)
    omega
/-- by how much the number grows as he comes to the set s -/
noncomputable def gwT (H : HS) (p s : Nat) : Nat := if s.testBit p = true then 0 else fac (pcN s) * fac (H.pe - 1 - pcN s) * (mxV H (s ||| 2 ^ p) - mxV H s)
noncomputable def gwV (H : HS) (p : Nat) : Nat → Nat := smF (gwT H p)
theorem facb : ∀ a, a < 6 → ∀ b, b < 6 → a + b ≤ 5 → fac a * fac b ≤ 120 := by decide +kernel
theorem fac_p : ∀ a, a ≤ 6 → 1 ≤ fac a ∧ fac a ≤ 720 := by decide +kernel
theorem af : ∀ n, n ≤ 6 → aFact.getD n 0 = nI (fac n) := by decide +kernel
theorem gwT_le {p s : Nat} (hI : HI H) (hp : p < H.pe) (hs : s < 2 ^ H.pe) : gwT H p s ≤ 960 := by
  have hp6 := hI.pe
  have p6 := pw_le hp6
  unfold gwT
  split
  · omega
  · rename_i h
    have hb : s.testBit p = false := Bool.eq_false_iff.mpr h
    have h1 := pc_lt H.pe (by omega) p hp s (by omega) hs hb
    have h2 := facb (pcN s) (by omega) (H.pe - 1 - pcN s) (by omega) (by omega)
    have h3 := (mxV_s (H := H) (lf := s ||| 2 ^ p)).1
    exact Nat.le_trans (Nat.mul_le_mul h2 (show mxV H (s ||| 2 ^ p) - mxV H s ≤ 8 by omega)) (by decide)
theorem gwV_le (hI : HI H) {p : Nat} (hp : p < H.pe) : gwV H p (2 ^ H.pe) ≤ 61440 := by
  have p6 := pw_le hI.pe
  have := sF_le (f := gwT H p) (b := 960) (2 ^ H.pe) (fun i hi => gwT_le hI hp hi)
  have h2 : 960 * 2 ^ H.pe ≤ 960 * 64 := Nat.mul_le_mul_left _ p6
  unfold gwV
  omega
end WOP
theorem rem_tm {x y : Int32} (hy : ¬ y = 0) : (x - x / y * y).toInt = x.toInt.tmod y.toInt := by
  have hy0 : y.toInt ≠ 0 := fun h => hy (Int32.toInt_inj.mp (h.trans (by decide)))
  have hm := Int.natAbs_tmod x.toInt y.toInt
  have hlt : (x.toInt.tmod y.toInt).natAbs < y.toInt.natAbs := by
    rw [hm]
    exact Nat.mod_lt _ (Int.natAbs_pos.mpr hy0)
  have hd := Int.tmod_add_tdiv_mul x.toInt y.toInt
  have l1 := lo_i y
  have l2 := hi_i y
  rw [Int32.toInt_sub, Int32.toInt_mul, Int32.toInt_div, Int.bmod_mul_bmod, Int.sub_bmod_bmod]
  have e2 : x.toInt - x.toInt.tdiv y.toInt * y.toInt = x.toInt.tmod y.toInt := by
    generalize x.toInt.tdiv y.toInt * y.toInt = z at hd
    omega
  rw [e2]
  exact bm32 (by omega) (by omega)
theorem nI_rem {a b : Nat} (ha : a < 2 ^ 31) (hb : b < 2 ^ 31) (h0 : b ≠ 0) : nI a - nI a / nI b * nI b = nI (a % b) := by
  have hn : ¬ nI b = 0 := fun e => h0 (nI_injN (b := 0) hb (by decide) e)
  have lt := Nat.mod_lt a (Nat.pos_of_ne_zero h0)
  apply Int32.toInt_inj.mp
  rw [rem_tm hn, nI_toInt ha, nI_toInt hb, nI_toInt (by omega)]
  rfl
theorem gcd_st {a b : Nat} : Nat.gcd b (a % b) = Nat.gcd a b := by
  rw [Nat.gcd_comm b (a % b), ← Nat.gcd_rec, Nat.gcd_comm]
noncomputable def woG (H : HS) (p : Nat) : Nat := Nat.gcd (fac H.pe) (gwV H p (2 ^ H.pe))
noncomputable def woV (H : HS) (p : Nat) (y : Int32) : Int32 := if y = 0 then nI (gwV H p (2 ^ H.pe)) / nI (woG H p) else nI (fac H.pe) / nI (woG H p)
noncomputable def woO (H : HS) (x y : Int32) : Option Int32 := if inN H.pe x ∧ (y = 0 ∨ y = Int32.ofInt 1) then some (woV H x.toNatClampNeg y) else none
section WOC
variable {l : aL} {M : aM} {H : HS} {x y : Int32}
theorem gcdF_c (hl0 : l.1.stackTraces = false) (hJ : ∀ e ∈ RM, M.2.2 e.1 e.2.1 = e.2.2) {a b : Nat} (ha : 1 ≤ a) (ha2 : a < 2 ^ 16) (hb : b < 2 ^ 16) : AC l (pI pg 141) (fcI M (fun y M' => M' = M ∧ y = nI (Nat.gcd a b))) 0 0 [.int (nI a), .int (nI b)] SHF M := by
  refine fw_of hl0 ⟨by decide +kernel, by decide +kernel, by decide +kernel⟩ rfl ?_
  refine s141_0 hJ ?_
  have fin : ∀ {u g : Nat}, 1 ≤ u → u < 2 ^ 16 → u = g → fcI M (fun y M' => M' = M ∧ y = nI g) (.inl (some (.int (if Int32.ofInt 1 < nI u then nI u else Int32.ofInt 1)))) SHF M := by
    intro u g h1 h2 h3
    refine ⟨rfl, rfl, _, rfl, rfl, ?_⟩
    subst h3
    by_cases e : u = 1
    · subst e
      rfl
    · rw [if_pos (by rw [z_1, nlt (by decide) (by omega)]; omega)]
  have loop : ∀ (m k u w : Nat), k + 2 * m + 1 ≤ 100 → 1 ≤ u → u < 2 ^ 16 → w < 2 ^ m → w < 2 ^ 16 → Nat.gcd u w = Nat.gcd a b → AW l (pI pg 141) (fcI M (fun y M' => M' = M ∧ y = nI (Nat.gcd a b))) 0 0 7 [(4, .int (nI k)), (3, .int (nI w)), (2, .int (nI u))] [] SHF M := by
    intro m
    have z : ∀ (k u : Nat), k + 1 ≤ 100 → 1 ≤ u → u < 2 ^ 16 → Nat.gcd u 0 = Nat.gcd a b → AW l (pI pg 141) (fcI M (fun y M' => M' = M ∧ y = nI (Nat.gcd a b))) 0 0 7 [(4, .int (nI k)), (3, .int (nI 0)), (2, .int (nI u))] [] SHF M := by
      intro k u hk u1 u2 hg
      rw [Nat.gcd_zero_right] at hg
      exact s141_7 hJ (fun _ => fin u1 u2 hg) (fun _ _ => fin u1 u2 hg) (fun _ h => absurd rfl h) (fun _ h => absurd rfl h)
    induction m with
    | zero =>
      intro k u w hk u1 u2 hw _ hg
      have ew : w = 0 := by
        rw [Nat.pow_zero] at hw
        omega
      subst ew
      exact z k u (by omega) u1 u2 hg
    | succ m ih =>
      have step : ∀ (k u w : Nat), k + 1 ≤ 100 → u < 2 ^ 16 → w < 2 ^ 16 → w ≠ 0 → AW l (pI pg 141) (fcI M (fun y M' => M' = M ∧ y = nI (Nat.gcd a b))) 0 0 7 [(4, .int (nI (k + 1))), (3, .int (nI (u % w))), (2, .int (nI w))] [] SHF M → AW l (pI pg 141) (fcI M (fun y M' => M' = M ∧ y = nI (Nat.gcd a b))) 0 0 7 [(4, .int (nI k)), (3, .int (nI w)), (2, .int (nI u))] [] SHF M := by
        intro k u w hk u2 w2 w0 kk
        have nle : ¬ (Int8.ofInt 100).toInt32 ≤ nI k := by
          rw [z_100, nle (by decide) (by omega)]
          omega
        have nz : ¬ nI w = 0 := fun e => w0 (nI_injN (b := 0) (by omega) (by decide) e)
        refine s141_7 hJ (fun h => absurd h nle) (fun _ h => absurd h nz) (fun _ h => h) (fun _ _ => ?_)
        rw [show nI k + Int32.ofInt 1 = nI (k + 1) from nI_1 k, nI_rem (by omega) (by omega) w0]
        exact kk
      intro k u w hk u1 u2 hw w2 hg
      by_cases w0 : w = 0
      · subst w0
        exact z k u (by omega) u1 u2 hg
      refine step k u w (by omega) u2 w2 w0 ?_
      have l1 := Nat.mod_lt u (Nat.pos_of_ne_zero w0)
      by_cases h : u % w < 2 ^ m
      · exact ih (k + 1) w (u % w) (by omega) (by omega) w2 h (by omega) (by rw [gcd_st]; exact hg)
      · have mp := Nat.two_pow_pos m
        have r0 : u % w ≠ 0 := by omega
        refine step (k + 1) w (u % w) (by omega) w2 (by omega) r0 ?_
        rw [Nat.pow_succ] at hw
        have e : w % (u % w) = w - u % w := by
          rw [Nat.mod_eq_sub_mod (by omega), Nat.mod_eq_of_lt (by omega)]
        exact ih (k + 1 + 1) (u % w) (w % (u % w)) (by omega) (by omega) (by omega) (by rw [e]; omega) (by rw [e]; omega) (by rw [gcd_st, gcd_st]; exact hg)
  exact loop 16 0 a b (by omega) ha ha2 hb hb rfl
end WOC
section WOA
variable {l : aL} {M : aM} {H : HS} {x y : Int32}
theorem grwa_c (hl0 : l.1.stackTraces = false) (hJ : JR RR M) (hI : HI H) (hH : cHo 4 H M) (hS : SL H M) {p : Nat} (hp : p < H.pe) : AC l (pI pg 140) (fcI M (fun y M' => M' = M ∧ y = nI (gwV H p (2 ^ H.pe)))) 0 0 [.ref 0, .int (nI p)] SHF M := by
  have hp6 := hI.pe
  have h64 := pw_le hp6
  have hpos := Nat.two_pow_pos H.pe
  have hRM : ∀ e ∈ RM, M.2.2 e.1 e.2.1 = e.2.2 := fun e he => rgR_ok hJ.2 (okR_RR.1 e he)
  have hRL : ∀ e ∈ RL, M.2.2 e.1 e.2.1 = e.2.2 := fun e he => hJ.2 e (rl_RR e he)
  refine fw_of hl0 ⟨by decide +kernel, by decide +kernel, by decide +kernel⟩ rfl ?_
  refine s140a_0 hJ.2 ?_
  have loop : ∀ (d k : Nat), k + d = 2 ^ H.pe → AW l (pI pg 140) (fcI M (fun y M' => M' = M ∧ y = nI (gwV H p (2 ^ H.pe)))) 0 0 4 [(3, .int (nI k)), (2, .int (nI (gwV H p k))), (0, .ref 0), (1, .int (nI p))] [] SHF M := by
    intro d
    induction d with
    | zero =>
      intro k hk
      have ek : k = 2 ^ H.pe := by omega
      subst ek
      have lt : nI (2 ^ H.pe - 1) < nI (2 ^ H.pe) := by
        rw [nlt (by omega) (by omega)]
        omega
      have no : ∀ {y : Int32}, y = nI (2 ^ H.pe - 1) → ¬ ¬ (y < nI (2 ^ H.pe)) := fun {y} hy h => h (by rw [hy]; exact lt)
      exact s140a_4 hJ.2 (fun y M' => M' = M ∧ y = nI (2 ^ H.pe - 1)) (c32a hl0 hRM (by omega) hH.pe) (fun y M2 e2 q2 _ => by rw [q2.1]; exact ⟨rfl, rfl, _, rfl, rfl, rfl⟩) (fun y M2 e2 q2 h => absurd h (no q2.2)) (fun _ _ _ _ => True) (fun y M2 e2 q2 h => absurd h (no q2.2)) (fun _ _ _ _ _ _ => True) (fun y M2 e2 q2 h => absurd h (no q2.2)) (fun _ _ _ _ _ _ _ _ => True) (fun y M2 e2 q2 h => absurd h (no q2.2)) (fun y M2 e2 q2 h => absurd h (no q2.2)) (fun y M2 e2 q2 h => absurd h (no q2.2)) (fun y M2 e2 q2 h => absurd h (no q2.2))
    | succ d ih =>
      intro k hk
      have kl : k < 2 ^ H.pe := by omega
      have hk1 : nI k + Int32.ofInt 1 = nI (k + 1) := nI_1 k
      have bf : ((nI k >>> (nI p &&& 31)) &&& Int32.ofInt 1 = 0) ↔ k.testBit p = false := bitF (by omega) (by omega)
      have pw : 2 ^ p < 2 ^ H.pe := Nat.pow_lt_pow_right (by decide) hp
      have ol : k ||| 2 ^ p < 2 ^ H.pe := Nat.or_lt_two_pow kl pw
      have gn : ∀ {lf : Nat}, lf < 2 ^ H.pe → AC l (pI pg 115) (fcI M (fun y M' => M' = M ∧ y = nI (mxV H lf))) 0 0 [.ref 33, .int (nI lf)] SHF M := fun {lf} hl => AC.post hl0 (fun r sh' M' hq => by
        obtain ⟨r1, r2, z, r3, r4, v, -, r5, r6⟩ := hq
        exact ⟨r1, r2, z, r3, r4, by rw [r5, mxV_is r6]⟩) (gnu_c (l := l) (M := M) (H := H) (cd := H.cd) (lf := lf) (N := H.pe) hl0 hRL (by omega) hl hS.2.1 hS.2.2)
      refine s140a_4 hJ.2 (fun y M' => M' = M ∧ y = nI (2 ^ H.pe - 1)) (c32a hl0 hRM (by omega) hH.pe) (fun y M2 e2 q2 h3 => ?_) (fun y M2 e2 q2 h3 h5 => ?_) (fun _ M2 y M' => M' = M2 ∧ y = nI (pcN k)) (fun y M2 e2 q2 h3 h5 => ?_) (fun _ _ _ M7 y M' => M' = M7 ∧ y = nI (mxV H (k ||| 2 ^ p))) (fun y M2 e2 q2 h3 h5 y7 M7 e7 q7 => ?_) (fun _ _ _ _ _ M9 y M' => M' = M9 ∧ y = nI (mxV H k)) (fun y M2 e2 q2 h3 h5 y7 M7 e7 q7 y9 M9 e9 q9 => ?_) (fun y M2 e2 q2 h3 h5 y7 M7 e7 q7 y9 M9 e9 q9 y11 M11 e11 q11 => ?_) (fun y M2 e2 q2 h3 h5 y7 M7 e7 q7 y9 M9 e9 q9 y11 M11 e11 q11 => ?_) (fun y M2 e2 q2 h3 h5 y7 M7 e7 q7 y9 M9 e9 q9 y11 M11 e11 q11 => ?_)
      · rw [q2.2, nlt (by omega) (by omega)] at h3
        omega
      · obtain ⟨rfl, rfl⟩ := q2
        have hb : k.testBit p = true := by
          cases e : k.testBit p with
          | true => rfl
          | false => exact absurd (bf.mpr e) h5
        have k2 := ih (k + 1) (by omega)
        rw [show gwV H p (k + 1) = gwV H p k + gwT H p k from rfl, show gwT H p k = 0 from if_pos hb, Nat.add_zero] at k2
        rw [hk1]
        exact k2
      · obtain ⟨rfl, rfl⟩ := q2
        exact c21 hl0 hRM (by omega)
      · obtain ⟨rfl, rfl⟩ := q2
        obtain ⟨rfl, rfl⟩ := q7
        rw [shW (show p ≤ 8 by omega), nI_orN (by omega) (by omega)]
        exact gn ol
      · obtain ⟨rfl, rfl⟩ := q2
        obtain ⟨rfl, rfl⟩ := q7
        obtain ⟨rfl, rfl⟩ := q9
        exact gn kl
      all_goals
        obtain ⟨rfl, rfl⟩ := q2
        obtain ⟨rfl, rfl⟩ := q7
        obtain ⟨rfl, rfl⟩ := q9
        obtain ⟨rfl, rfl⟩ := q11
        have hb := bf.mp h5
        have p1 := pc_lt H.pe (by omega) p hp k (by omega) kl hb
        have e4 : M11.1 4 0 - Int32.ofInt 1 - nI (pcN k) = nI (H.pe - 1 - pcN k) := by
          rw [hH.pe, show nI H.pe - Int32.ofInt 1 = nI (H.pe - 1) from nI_subN (b := 1) (by omega) (by omega), nI_subN (by omega) (by omega)]
      · exact vp_in_nI (by omega) (by decide)
      · rw [e4]
        exact vp_in_nI (by omega) (by decide)
      · rw [e4, nI_clamp (n := pcN k) (by omega), nI_clamp (n := H.pe - 1 - pcN k) (by omega), af _ (by omega), af _ (by omega), hk1]
        have m8 := (mxV_s (H := H) (lf := k ||| 2 ^ p)).1
        rw [nI_subN (mxV_up (H := H) (lf := k) (q := p)) (by omega), nI_mulN, nI_mulN, nI_add]
        have k2 := ih (k + 1) (by omega)
        rw [show gwV H p (k + 1) = gwV H p k + gwT H p k from rfl, show gwT H p k = fac (pcN k) * fac (H.pe - 1 - pcN k) * (mxV H (k ||| 2 ^ p) - mxV H k) from if_neg (by rw [hb]; decide)] at k2
        exact k2
  exact loop (2 ^ H.pe) 0 (by omega)
theorem wora_f (hl0 : l.1.stackTraces = false) (hJ : JR RR M) (hI : HI H) (hH : cHo 4 H M) (hS : SL H M) : AC l (pI pg 139) (tcO "java/util/NoSuchElementException" M (woO H x y)) 2 12 [.ref 0, .int x, .int y] SHF M := by
  have hp6 := hI.pe
  have hRM : ∀ e ∈ RM, M.2.2 e.1 e.2.1 = e.2.2 := fun e he => rgR_ok hJ.2 (okR_RR.1 e he)
  have fp := fac_p H.pe hp6
  have vp : vp_in (M.1 4 0) 7 := by rw [hH.pe]; exact vp_in_nI (by omega) (by decide)
  have eF : aFact.getD (M.1 4 0).toNatClampNeg 0 = nI (fac H.pe) := by rw [hH.pe, nI_clamp (by omega), af _ hp6]
  have gr : inN H.pe x → AC l (pI pg 140) (fcI M (fun y M' => M' = M ∧ y = nI (gwV H x.toNatClampNeg (2 ^ H.pe)))) 0 0 [.ref 0, .int x] SHF M := fun h => by
    have c := grwa_c (l := l) hl0 hJ hI hH hS (inN_lt h)
    rw [← inN_eq h] at c
    exact c
  have gd : inN H.pe x → AC l (pI pg 141) (fcI M (fun z M' => M' = M ∧ z = nI (woG H x.toNatClampNeg))) 0 0 [.int (nI (fac H.pe)), .int (nI (gwV H x.toNatClampNeg (2 ^ H.pe)))] SHF M := fun h => by
    have := gwV_le hI (inN_lt h)
    exact gcdF_c hl0 hRM fp.1 (by omega) (by omega)
  have gz : inN H.pe x → ¬ nI (woG H x.toNatClampNeg) = 0 := fun h e => by
    have h1 : woG H x.toNatClampNeg ≤ fac H.pe := Nat.le_of_dvd (by omega) (Nat.gcd_dvd_left _ _)
    have h2 : 0 < woG H x.toNatClampNeg := Nat.gcd_pos_of_pos_left _ (by omega)
    have := nI_injN (b := 0) (by omega) (by decide) e
    omega
  refine fw_of hl0 ⟨by decide +kernel, by decide +kernel, by decide +kernel⟩ rfl ?_
  refine wrta_0 (kc := 0) (ks := 0) hJ.2 hl0 (¬ inN H.pe x) (cpea_c hl0 hJ hI hH) (fun b => ⟨rfl, rfl, Or.inl ⟨by rw [woO, if_neg (fun q => b q.1)], rfl⟩⟩) (fun b h4 => vp) (fun y M' => M' = M ∧ y = nI (gwV H x.toNatClampNeg (2 ^ H.pe))) (fun b h4 => gr (Decidable.not_not.mp b)) (fun _ M6 z M' => M' = M6 ∧ z = nI (woG H x.toNatClampNeg)) (fun b h4 y6 M6 e6 q6 => ?_) (fun b h4 y6 M6 e6 q6 y8 M8 e8 q8 h10 => absurd h4 h10) (fun b h4 y6 M6 e6 q6 y8 M8 e8 q8 h10 => absurd h4 h10) (fun b h4 y6 M6 e6 q6 y8 M8 e8 q8 h10 => ?_) (fun b h4 y6 M6 e6 q6 y8 M8 e8 q8 h10 => ?_) (fun b h4 h15 => vp) (fun y M' => M' = M ∧ y = nI (gwV H x.toNatClampNeg (2 ^ H.pe))) (fun b h4 h15 => gr (Decidable.not_not.mp b)) (fun _ M17 z M' => M' = M17 ∧ z = nI (woG H x.toNatClampNeg)) (fun b h4 h15 y17 M17 e17 q17 => ?_) (fun b h4 h15 y17 M17 e17 q17 y19 M19 e19 q19 h21 => ?_) (fun b h4 h15 y17 M17 e17 q17 y19 M19 e19 q19 h21 => ?_) (fun b h4 h15 y17 M17 e17 q17 y19 M19 e19 q19 h21 => absurd h21 h4) (fun b h4 h15 y17 M17 e17 q17 y19 M19 e19 q19 h21 => absurd h21 h4) (fun b h4 h15 => ⟨rfl, rfl, Or.inl ⟨by rw [woO, if_neg (fun q => q.2.elim h4 h15)], rfl⟩⟩)
  · obtain ⟨rfl, rfl⟩ := q6
    rw [eF]
    exact gd (Decidable.not_not.mp b)
  · rw [q8.2]
    exact gz (Decidable.not_not.mp b)
  · obtain ⟨rfl, rfl⟩ := q6
    obtain ⟨rfl, rfl⟩ := q8
    exact ⟨rfl, rfl, Or.inr ⟨_, by rw [woO, if_pos ⟨Decidable.not_not.mp b, Or.inl h4⟩, woV, if_pos h4], rfl⟩⟩
  · obtain ⟨rfl, rfl⟩ := q17
    rw [eF]
    exact gd (Decidable.not_not.mp b)
  · rw [q19.2]
    exact gz (Decidable.not_not.mp b)
  · obtain ⟨rfl, rfl⟩ := q17
    obtain ⟨rfl, rfl⟩ := q19
    rw [eF]
    exact ⟨rfl, rfl, Or.inr ⟨_, by rw [woO, if_pos ⟨Decidable.not_not.mp b, Or.inr h15⟩, woV, if_neg h4], rfl⟩⟩
end WOA
section WOB
variable {l : aL} {M : aM} {H : HS} {x y : Int32}
theorem grwb_c (hl0 : l.1.stackTraces = false) (hJ : JR RRS M) (hI : HI H) (hH : cHo 17 H M) (hS : SL H M) {p : Nat} (hp : p < H.pe) : AC l (pI pg 140) (fcI M (fun y M' => M' = M ∧ y = nI (gwV H p (2 ^ H.pe)))) 0 0 [.ref 0, .int (nI p)] SHF M := by
  have hp6 := hI.pe
  have h64 := pw_le hp6
  have hpos := Nat.two_pow_pos H.pe
  have hRM : ∀ e ∈ RM, M.2.2 e.1 e.2.1 = e.2.2 := fun e he => rgR_ok hJ.2 (okR_RRS.1 e he)
  have hRL : ∀ e ∈ RL, M.2.2 e.1 e.2.1 = e.2.2 := fun e he => hJ.2 e (rl_RRS e he)
  refine fw_of hl0 ⟨by decide +kernel, by decide +kernel, by decide +kernel⟩ rfl ?_
  refine s140b_0 hJ.2 ?_
  have loop : ∀ (d k : Nat), k + d = 2 ^ H.pe → AW l (pI pg 140) (fcI M (fun y M' => M' = M ∧ y = nI (gwV H p (2 ^ H.pe)))) 0 0 4 [(3, .int (nI k)), (2, .int (nI (gwV H p k))), (0, .ref 0), (1, .int (nI p))] [] SHF M := by
    intro d
    induction d with
    | zero =>
      intro k hk
      have ek : k = 2 ^ H.pe := by omega
      subst ek
      have lt : nI (2 ^ H.pe - 1) < nI (2 ^ H.pe) := by
        rw [nlt (by omega) (by omega)]
        omega
      have no : ∀ {y : Int32}, y = nI (2 ^ H.pe - 1) → ¬ ¬ (y < nI (2 ^ H.pe)) := fun {y} hy h => h (by rw [hy]; exact lt)
      exact s140b_4 hJ.2 (fun y M' => M' = M ∧ y = nI (2 ^ H.pe - 1)) (c32b hl0 hRM (by omega) hH.pe) (fun y M2 e2 q2 _ => by rw [q2.1]; exact ⟨rfl, rfl, _, rfl, rfl, rfl⟩) (fun y M2 e2 q2 h => absurd h (no q2.2)) (fun _ _ _ _ => True) (fun y M2 e2 q2 h => absurd h (no q2.2)) (fun _ _ _ _ _ _ => True) (fun y M2 e2 q2 h => absurd h (no q2.2)) (fun _ _ _ _ _ _ _ _ => True) (fun y M2 e2 q2 h => absurd h (no q2.2)) (fun y M2 e2 q2 h => absurd h (no q2.2)) (fun y M2 e2 q2 h => absurd h (no q2.2)) (fun y M2 e2 q2 h => absurd h (no q2.2))
    | succ d ih =>
      intro k hk
      have kl : k < 2 ^ H.pe := by omega
      have hk1 : nI k + Int32.ofInt 1 = nI (k + 1) := nI_1 k
      have bf : ((nI k >>> (nI p &&& 31)) &&& Int32.ofInt 1 = 0) ↔ k.testBit p = false := bitF (by omega) (by omega)
      have pw : 2 ^ p < 2 ^ H.pe := Nat.pow_lt_pow_right (by decide) hp
      have ol : k ||| 2 ^ p < 2 ^ H.pe := Nat.or_lt_two_pow kl pw
      have gn : ∀ {lf : Nat}, lf < 2 ^ H.pe → AC l (pI pg 115) (fcI M (fun y M' => M' = M ∧ y = nI (mxV H lf))) 0 0 [.ref 33, .int (nI lf)] SHF M := fun {lf} hl => AC.post hl0 (fun r sh' M' hq => by
        obtain ⟨r1, r2, z, r3, r4, v, -, r5, r6⟩ := hq
        exact ⟨r1, r2, z, r3, r4, by rw [r5, mxV_is r6]⟩) (gnu_c (l := l) (M := M) (H := H) (cd := H.cd) (lf := lf) (N := H.pe) hl0 hRL (by omega) hl hS.2.1 hS.2.2)
      refine s140b_4 hJ.2 (fun y M' => M' = M ∧ y = nI (2 ^ H.pe - 1)) (c32b hl0 hRM (by omega) hH.pe) (fun y M2 e2 q2 h3 => ?_) (fun y M2 e2 q2 h3 h5 => ?_) (fun _ M2 y M' => M' = M2 ∧ y = nI (pcN k)) (fun y M2 e2 q2 h3 h5 => ?_) (fun _ _ _ M7 y M' => M' = M7 ∧ y = nI (mxV H (k ||| 2 ^ p))) (fun y M2 e2 q2 h3 h5 y7 M7 e7 q7 => ?_) (fun _ _ _ _ _ M9 y M' => M' = M9 ∧ y = nI (mxV H k)) (fun y M2 e2 q2 h3 h5 y7 M7 e7 q7 y9 M9 e9 q9 => ?_) (fun y M2 e2 q2 h3 h5 y7 M7 e7 q7 y9 M9 e9 q9 y11 M11 e11 q11 => ?_) (fun y M2 e2 q2 h3 h5 y7 M7 e7 q7 y9 M9 e9 q9 y11 M11 e11 q11 => ?_) (fun y M2 e2 q2 h3 h5 y7 M7 e7 q7 y9 M9 e9 q9 y11 M11 e11 q11 => ?_)
      · rw [q2.2, nlt (by omega) (by omega)] at h3
        omega
      · obtain ⟨rfl, rfl⟩ := q2
        have hb : k.testBit p = true := by
          cases e : k.testBit p with
          | true => rfl
          | false => exact absurd (bf.mpr e) h5
        have k2 := ih (k + 1) (by omega)
        rw [show gwV H p (k + 1) = gwV H p k + gwT H p k from rfl, show gwT H p k = 0 from if_pos hb, Nat.add_zero] at k2
        rw [hk1]
        exact k2
      · obtain ⟨rfl, rfl⟩ := q2
        exact c21 hl0 hRM (by omega)
      · obtain ⟨rfl, rfl⟩ := q2
        obtain ⟨rfl, rfl⟩ := q7
        rw [shW (show p ≤ 8 by omega), nI_orN (by omega) (by omega)]
        exact gn ol
      · obtain ⟨rfl, rfl⟩ := q2
        obtain ⟨rfl, rfl⟩ := q7
        obtain ⟨rfl, rfl⟩ := q9
        exact gn kl
      all_goals
        obtain ⟨rfl, rfl⟩ := q2
        obtain ⟨rfl, rfl⟩ := q7
        obtain ⟨rfl, rfl⟩ := q9
        obtain ⟨rfl, rfl⟩ := q11
        have hb := bf.mp h5
        have p1 := pc_lt H.pe (by omega) p hp k (by omega) kl hb
        have e4 : M11.1 17 0 - Int32.ofInt 1 - nI (pcN k) = nI (H.pe - 1 - pcN k) := by
          rw [hH.pe, show nI H.pe - Int32.ofInt 1 = nI (H.pe - 1) from nI_subN (b := 1) (by omega) (by omega), nI_subN (by omega) (by omega)]
      · exact vp_in_nI (by omega) (by decide)
      · rw [e4]
        exact vp_in_nI (by omega) (by decide)
      · rw [e4, nI_clamp (n := pcN k) (by omega), nI_clamp (n := H.pe - 1 - pcN k) (by omega), af _ (by omega), af _ (by omega), hk1]
        have m8 := (mxV_s (H := H) (lf := k ||| 2 ^ p)).1
        rw [nI_subN (mxV_up (H := H) (lf := k) (q := p)) (by omega), nI_mulN, nI_mulN, nI_add]
        have k2 := ih (k + 1) (by omega)
        rw [show gwV H p (k + 1) = gwV H p k + gwT H p k from rfl, show gwT H p k = fac (pcN k) * fac (H.pe - 1 - pcN k) * (mxV H (k ||| 2 ^ p) - mxV H k) from if_neg (by rw [hb]; decide)] at k2
        exact k2
  exact loop (2 ^ H.pe) 0 (by omega)
theorem worb_f (hl0 : l.1.stackTraces = false) (hJ : JR RRS M) (hI : HI H) (hH : cHo 17 H M) (hS : SL H M) : AC l (pI pg 139) (tcO "java/util/NoSuchElementException" M (woO H x y)) 2 12 [.ref 0, .int x, .int y] SHF M := by
  have hp6 := hI.pe
  have hRM : ∀ e ∈ RM, M.2.2 e.1 e.2.1 = e.2.2 := fun e he => rgR_ok hJ.2 (okR_RRS.1 e he)
  have fp := fac_p H.pe hp6
  have vp : vp_in (M.1 17 0) 7 := by rw [hH.pe]; exact vp_in_nI (by omega) (by decide)
  have eF : aFact.getD (M.1 17 0).toNatClampNeg 0 = nI (fac H.pe) := by rw [hH.pe, nI_clamp (by omega), af _ hp6]
  have gr : inN H.pe x → AC l (pI pg 140) (fcI M (fun y M' => M' = M ∧ y = nI (gwV H x.toNatClampNeg (2 ^ H.pe)))) 0 0 [.ref 0, .int x] SHF M := fun h => by
    have c := grwb_c (l := l) hl0 hJ hI hH hS (inN_lt h)
    rw [← inN_eq h] at c
    exact c
  have gd : inN H.pe x → AC l (pI pg 141) (fcI M (fun z M' => M' = M ∧ z = nI (woG H x.toNatClampNeg))) 0 0 [.int (nI (fac H.pe)), .int (nI (gwV H x.toNatClampNeg (2 ^ H.pe)))] SHF M := fun h => by
    have := gwV_le hI (inN_lt h)
    exact gcdF_c hl0 hRM fp.1 (by omega) (by omega)
  have gz : inN H.pe x → ¬ nI (woG H x.toNatClampNeg) = 0 := fun h e => by
    have h1 : woG H x.toNatClampNeg ≤ fac H.pe := Nat.le_of_dvd (by omega) (Nat.gcd_dvd_left _ _)
    have h2 : 0 < woG H x.toNatClampNeg := Nat.gcd_pos_of_pos_left _ (by omega)
    have := nI_injN (b := 0) (by omega) (by decide) e
    omega
  refine fw_of hl0 ⟨by decide +kernel, by decide +kernel, by decide +kernel⟩ rfl ?_
  refine wrtb_0 (kc := 0) (ks := 0) hJ.2 hl0 (¬ inN H.pe x) (cpeb_c hl0 hJ hI hH) (fun b => ⟨rfl, rfl, Or.inl ⟨by rw [woO, if_neg (fun q => b q.1)], rfl⟩⟩) (fun b h4 => vp) (fun y M' => M' = M ∧ y = nI (gwV H x.toNatClampNeg (2 ^ H.pe))) (fun b h4 => gr (Decidable.not_not.mp b)) (fun _ M6 z M' => M' = M6 ∧ z = nI (woG H x.toNatClampNeg)) (fun b h4 y6 M6 e6 q6 => ?_) (fun b h4 y6 M6 e6 q6 y8 M8 e8 q8 h10 => absurd h4 h10) (fun b h4 y6 M6 e6 q6 y8 M8 e8 q8 h10 => absurd h4 h10) (fun b h4 y6 M6 e6 q6 y8 M8 e8 q8 h10 => ?_) (fun b h4 y6 M6 e6 q6 y8 M8 e8 q8 h10 => ?_) (fun b h4 h15 => vp) (fun y M' => M' = M ∧ y = nI (gwV H x.toNatClampNeg (2 ^ H.pe))) (fun b h4 h15 => gr (Decidable.not_not.mp b)) (fun _ M17 z M' => M' = M17 ∧ z = nI (woG H x.toNatClampNeg)) (fun b h4 h15 y17 M17 e17 q17 => ?_) (fun b h4 h15 y17 M17 e17 q17 y19 M19 e19 q19 h21 => ?_) (fun b h4 h15 y17 M17 e17 q17 y19 M19 e19 q19 h21 => ?_) (fun b h4 h15 y17 M17 e17 q17 y19 M19 e19 q19 h21 => absurd h21 h4) (fun b h4 h15 y17 M17 e17 q17 y19 M19 e19 q19 h21 => absurd h21 h4) (fun b h4 h15 => ⟨rfl, rfl, Or.inl ⟨by rw [woO, if_neg (fun q => q.2.elim h4 h15)], rfl⟩⟩)
  · obtain ⟨rfl, rfl⟩ := q6
    rw [eF]
    exact gd (Decidable.not_not.mp b)
  · rw [q8.2]
    exact gz (Decidable.not_not.mp b)
  · obtain ⟨rfl, rfl⟩ := q6
    obtain ⟨rfl, rfl⟩ := q8
    exact ⟨rfl, rfl, Or.inr ⟨_, by rw [woO, if_pos ⟨Decidable.not_not.mp b, Or.inl h4⟩, woV, if_pos h4], rfl⟩⟩
  · obtain ⟨rfl, rfl⟩ := q17
    rw [eF]
    exact gd (Decidable.not_not.mp b)
  · rw [q19.2]
    exact gz (Decidable.not_not.mp b)
  · obtain ⟨rfl, rfl⟩ := q17
    obtain ⟨rfl, rfl⟩ := q19
    rw [eF]
    exact ⟨rfl, rfl, Or.inr ⟨_, by rw [woO, if_pos ⟨Decidable.not_not.mp b, Or.inr h15⟩, woV, if_neg h4], rfl⟩⟩
end WOB
section WOR
variable {l : aL} {M : aM} {H : HS} {R : sR} {x y : Int32}
theorem mosF_c (hl0 : l.1.stackTraces = false) {cd : Nat → Nat} {N : Nat} {D : rD} {fx : Nat → Int} (w8 : H.wo ≤ 8) (hm : mdl M N D fx) (hb : mdB N D) (hW : dW D = H.wo) (hL : hLs H cd N D) : AC l (pI pg 216) (fcI M (fun y M' => (∀ a k, a ≠ 76 → a ≠ 77 → a ≠ 78 → M'.1 a k = M.1 a k) ∧ ∃ v, v ≤ 8 ∧ y = nI v ∧ mxO H cd (dLf D) N (2 ^ H.wo) v)) 0 0 [.ref 58, .int (nI (dLf D))] SHF M := by
  have P8 := p2_8 w8
  refine fw_of hl0 ⟨by decide +kernel, by decide +kernel, by decide +kernel⟩ rfl ?_
  refine mos_0 hm.1 hl0 (Q209 M) (c209 hl0 hm.1) (fun M1 => Q210 N D (rwI M1 76) M1) (fun M1 e1 q1 => c210 hl0 (hm.re e1 (fun a k ha _ _ _ _ => q1.2.2 a k ha)) hb) (fun M1 e1 q1 M3 e3 q3 => ?_)
  have hm1 := hm.re e1 (fun a k ha _ _ _ _ => q1.2.2 a k ha)
  have hm3 := hm1.keep e3 q3.2.2
  have key : ∀ {t : Nat}, t < 2 ^ H.wo → (rwI M3 77 t ≠ -1 ↔ rea H cd (dLf D) N t) := fun {t} ht => Best_rea hW (fun w hw => by
    have := q1.1 w (by omega)
    show (M1.1 76 w).toInt = -1
    rw [this]
    rfl) rfl hL q3.1 ht
  have e58 : M3.1 58 2 = nI H.wo := by rw [← hW]; exact hm3.2.1
  have loop : ∀ (d s v : Nat), s + d = 2 ^ H.wo → v ≤ 8 → mxO H cd (dLf D) N s v → AW l (pI pg 216) (fcI M (fun y M' => (∀ a k, a ≠ 76 → a ≠ 77 → a ≠ 78 → M'.1 a k = M.1 a k) ∧ ∃ v, v ≤ 8 ∧ y = nI v ∧ mxO H cd (dLf D) N (2 ^ H.wo) v)) 0 0 13 [(3, .int (nI s)), (2, .int (nI v)), (1, .int (nI (dLf D))), (0, .ref 58)] [] SHF M3 := by
    intro d
    induction d with
    | zero =>
      intro s v hs v8 hx
      have es : s = 2 ^ H.wo := by omega
      subst es
      have g : Int32.ofInt 1 <<< (M3.1 58 2 &&& 31) ≤ nI (2 ^ H.wo) := by
        rw [e58, shW w8]
        exact Int32.le_refl _
      exact mos_13 hm3.1 hl0 (fun _ => ⟨rfl, e3.trans e1, _, rfl, fun a k a1 a2 a3 => (q3.2.2 a k a2 a3).trans (q1.2.2 a k a1), v, v8, rfl, hx⟩) (fun h => absurd g h) (fun h => absurd g h) (fun _ _ => True) (fun h => absurd g h) (fun h => absurd g h) (fun _ _ _ _ => True) (fun h => absurd g h) (fun h => absurd g h)
    | succ d ih =>
      intro s v hs v8 hx
      have ng : ¬ Int32.ofInt 1 <<< (M3.1 58 2 &&& 31) ≤ nI s := by
        rw [e58, shW w8, nle (by omega) (by omega)]
        omega
      have p8 := pcN_le (x := s) (by omega)
      refine mos_13 hm3.1 hl0 (fun h => absurd h ng) (fun _ => vp_in_nI (by omega) (by decide)) (fun _ h4 => ?_) (fun y M' => M' = M3 ∧ y = nI (pcN s)) (fun _ h4 => bts_c hl0 (by omega)) (fun _ h4 y6 M6 e6 q6 h8 => ?_) (fun _ M6 y M' => M' = M6 ∧ y = nI (pcN s)) (fun _ h4 y6 M6 e6 q6 h8 => bts_c hl0 (by omega)) (fun _ h4 y6 M6 e6 q6 h8 y10 M10 e10 q10 => ?_)
      · rw [nI_clamp (by omega), i_m1] at h4
        rw [show nI s + Int32.ofInt 1 = nI (s + 1) from nI_1 s]
        have nr : ¬ rea H cd (dLf D) N s := fun h => (key (by omega)).mpr h h4
        refine ih (s + 1) v (by omega) v8 ⟨hx.1.imp id (fun ⟨t, a, b⟩ => ⟨t, by omega, b⟩), fun t ht hr => ?_⟩
        by_cases e : t = s
        · subst e
          exact absurd hr nr
        · exact hx.2 t (by omega) hr
      · obtain ⟨rfl, rfl⟩ := q6
        rw [nle (by omega) (by omega)] at h8
        rw [show nI s + Int32.ofInt 1 = nI (s + 1) from nI_1 s]
        refine ih (s + 1) v (by omega) v8 ⟨hx.1.imp id (fun ⟨t, a, b⟩ => ⟨t, by omega, b⟩), fun t ht hr => ?_⟩
        by_cases e : t = s
        · subst e
          exact h8
        · exact hx.2 t (by omega) hr
      · obtain ⟨rfl, rfl⟩ := q6
        obtain ⟨rfl, rfl⟩ := q10
        rw [nle (by omega) (by omega)] at h8
        rw [nI_clamp (by omega), i_m1] at h4
        rw [show nI s + Int32.ofInt 1 = nI (s + 1) from nI_1 s]
        refine ih (s + 1) (pcN s) (by omega) p8 ⟨Or.inr ⟨s, by omega, (key (by omega)).mp h4, rfl⟩, fun t ht hr => ?_⟩
        by_cases e : t = s
        · subst e
          exact Nat.le_refl _
        · have := hx.2 t (by omega) hr
          omega
  exact loop (2 ^ H.wo) 0 0 (by omega) (by decide) ⟨Or.inl rfl, fun t ht => absurd ht (Nat.not_lt_zero _)⟩
theorem tb1 : ∀ s, s < 64 → ∀ p, p < 6 → (((nI s >>> (nI p &&& 31)) &&& Int32.ofInt 1) = Int32.ofInt 1 ↔ s.testBit p = true) := by decide +kernel
theorem mwr_c (hl0 : l.1.stackTraces = false) (hO : okR R) (hk : cOk l pg R SHF en_98) (w0 : wcF R.1 58 0 (0, 2) = true) (hJ : JR R M) (hI : HI H) (hm : mHo H M) : AC l (pI pg 228) (fcI M (fun z M' => mO (woO H x y) z M')) 0 0 [.ref 58, .int x, .int y] SHF M := by
  have w8 := hI.2.1
  have hp6 := hI.pe
  have p6 := pw_le hp6
  have hR : ∀ e ∈ RM, M.2.2 e.1 e.2.1 = e.2.2 := fun e he => rgR_ok hJ.2 (hO.1 e he)
  have z1 : ¬ (1 : Int32) = 0 := by decide
  have z10 : ¬ (Int32.ofInt 1 : Int32) = 0 := by decide
  have z00 : (Int32.ofInt 0 : Int32) = 0 := by decide
  have m0 : mHo H (M0w M) := mH_fr0 hm
  have j0 : JR R (M0w M) := JR_set (q := (0, 2)) hJ w0 ⟨by decide, by decide⟩
  have fp := fac_p H.pe hp6
  have hpos := Nat.two_pow_pos H.pe
  have rest : inN H.pe x → (y = 0 ∨ y = Int32.ofInt 1) → ∀ (M9 : aM), M9.2.2 = M.2.2 → (JR R M9 ∧ QlA H 0 (M0w M) M9) → AW l (pI pg 228) (fcI M (fun z M' => mO (woO H x y) z M')) 0 0 44 [(3, .int (Int32.ofInt 0)), (2, .int y), (1, .int x), (0, .ref 58)] [] SHF M9 := by
    intro hx hy M9 e9 q9
    have xe := inN_eq hx
    have hp := inN_lt hx
    rw [xe]
    have b1 : M9.1 58 1 = nI H.pe := (q9.2.2 58 1 (by decide) (by decide) (by decide)).trans m0.1
    have b2 : M9.1 58 2 = nI H.wo := (q9.2.2 58 2 (by decide) (by decide) (by decide)).trans m0.2.1
    have b0 : M9.1 58 0 = 0 := (q9.2.2 58 0 (by decide) (by decide) (by decide)).trans rfl
    have some1 : woO H x y = some (woV H x.toNatClampNeg y) := by rw [woO, if_pos ⟨hx, hy⟩]
    generalize hpe : x.toNatClampNeg = p at *
    have fR : ∀ {Mc : aM}, Mc.2.2 = M.2.2 → ∀ e ∈ RM, Mc.2.2 e.1 e.2.1 = e.2.2 := fun {Mc} h => by rw [h]; exact hR
    have euc : ∀ (n a b : Nat) (Mc : aM), b ≤ n → 1 ≤ a → a < 2 ^ 17 → b < 2 ^ 17 → Nat.gcd a b = woG H p → Mc.2.2 = M.2.2 → Mc.1 58 0 = 0 → AW l (pI pg 228) (fcI M (fun z M' => mO (woO H x y) z M')) 0 0 169 [(6, .int (nI b)), (5, .int (nI a)), (4, .int (nI (fac H.pe))), (3, .int (nI (gwV H p (2 ^ H.pe)))), (2, .int y)] [] SHF Mc := by
      intro n
      induction n with
      | zero =>
        intro a b Mc hb a1 a2 b2 hg g1 g2
        have eb : b = 0 := by omega
        subst eb
        rw [Nat.gcd_zero_right] at hg
        subst hg
        have nz : ¬ nI (woG H p) = 0 := fun e => by
          have := nI_injN (b := 0) (by omega) (by decide) e
          omega
        refine mwr_169 (fR g1) hl0 (fun _ _ => nz) (fun _ h2 => ⟨rfl, g1, _, rfl, Or.inr ⟨_, some1, ?_, g2⟩⟩) (fun _ _ => nz) (fun _ h2 => ⟨rfl, g1, _, rfl, Or.inr ⟨_, some1, ?_, g2⟩⟩) (fun h => absurd rfl h) (fun h => absurd rfl h)
        · rw [woV, if_neg h2]
        · rw [woV, if_pos h2]
      | succ n ih =>
        intro a b Mc hb a1 a2 b2 hg g1 g2
        by_cases eb : b = 0
        · exact ih a b Mc (by omega) a1 a2 b2 hg g1 g2
        have nb : ¬ nI b = 0 := fun e => eb (nI_injN (b := 0) (by omega) (by decide) e)
        refine mwr_169 (fR g1) hl0 (fun h => absurd h nb) (fun h => absurd h nb) (fun h => absurd h nb) (fun h => absurd h nb) (fun h => h) (fun _ => ?_)
        rw [nI_rem (by omega) (by omega) eb]
        have := Nat.mod_lt a (Nat.pos_of_ne_zero eb)
        exact ih b (a % b) Mc (by omega) (by omega) b2 (by omega) (by rw [gcd_st]; exact hg) g1 g2
    have sum : ∀ (Mc : aM), Mc.2.2 = M.2.2 → Mc.1 58 0 = 0 → Mc.1 58 1 = nI H.pe → (∀ s, s < 2 ^ H.pe → Mc.1 83 s = nI (mxV H s)) → ∀ (d s : Nat), s + d = 2 ^ H.pe → AW l (pI pg 228) (fcI M (fun z M' => mO (woO H x y) z M')) 0 0 76 [(4, .int (nI s)), (3, .int (nI (gwV H p s))), (2, .int y), (1, .int (nI p)), (0, .ref 58)] [] SHF Mc := by
      intro Mc g1 g2 g3 g4 d
      have e1 : Int32.ofInt 1 <<< (Mc.1 58 1 &&& 31) = nI (2 ^ H.pe) := by rw [g3, shW (by omega)]
      induction d with
      | zero =>
        intro s hs
        have es : s = 2 ^ H.pe := by omega
        subst es
        have le : Int32.ofInt 1 <<< (Mc.1 58 1 &&& 31) ≤ nI (2 ^ H.pe) := by rw [e1]; exact Int32.le_refl _
        refine mwr_76 (fR g1) hl0 (fun y M' => M' = Mc ∧ y = nI (fac H.pe)) (fun _ => by rw [g3]; exact c228 hl0 (fR g1) hp6) (fun _ y2 M2 e2 q2 => ?_) (fun _ _ => True) (fun h => absurd le h) (fun _ _ _ _ => True) (fun h => absurd le h) (fun _ _ _ _ _ _ => True) (fun h => absurd le h) (fun _ _ _ _ _ _ _ _ => True) (fun h => absurd le h) (fun h => absurd le h) (fun h => absurd le h) (fun h => absurd le h) (fun h => absurd le h)
        obtain ⟨rfl, rfl⟩ := q2
        have gl := gwV_le hI hp
        exact euc _ (fac H.pe) (gwV H p (2 ^ H.pe)) M2 (Nat.le_refl _) fp.1 (by omega) (by omega) rfl g1 g2
      | succ d ih =>
        intro s hs
        have sl : s < 2 ^ H.pe := by omega
        have ng : ¬ Int32.ofInt 1 <<< (Mc.1 58 1 &&& 31) ≤ nI s := by
          rw [e1, nle (by omega) (by omega)]
          omega
        have tb := tb1 s (by omega) p (by omega)
        have nx : nI s + Int32.ofInt 1 = nI (s + 1) := nI_1 s
        have pw : 2 ^ p < 2 ^ H.pe := Nat.pow_lt_pow_right (by decide) hp
        have ol : s ||| 2 ^ p < 2 ^ H.pe := Nat.or_lt_two_pow sl pw
        have fb : ¬ ((nI s >>> (nI p &&& 31)) &&& Int32.ofInt 1) = Int32.ofInt 1 → s.testBit p = false := fun h => Bool.eq_false_iff.mpr (fun g => h (tb.mpr g))
        have p1 : s.testBit p = false → pcN s + 1 ≤ H.pe := fun h => pc_lt H.pe (by omega) p hp s (by omega) sl h
        have eo : nI s ||| (Int32.ofInt 1 <<< (nI p &&& 31)) = nI (s ||| 2 ^ p) := by rw [shW (by omega), nI_orN (by omega) (by omega)]
        refine mwr_76 (fR g1) hl0 (fun _ _ => True) (fun h => absurd h ng) (fun h => absurd h ng) (fun y M' => M' = Mc ∧ y = nI (pcN s)) (fun _ h5 => bts_c hl0 (by omega)) (fun _ M6 y M' => M' = M6 ∧ y = nI (fac (pcN s))) (fun _ h5 y6 M6 e6 q6 => ?_) (fun _ _ _ M8 y M' => M' = M8 ∧ y = nI (pcN s)) (fun _ h5 y6 M6 e6 q6 y8 M8 e8 q8 => bts_c hl0 (by omega)) (fun _ _ _ _ _ M10 y M' => M' = M10 ∧ y = nI (fac (H.pe - 1 - pcN s))) (fun _ h5 y6 M6 e6 q6 y8 M8 e8 q8 y10 M10 e10 q10 => ?_) (fun _ h5 y6 M6 e6 q6 y8 M8 e8 q8 y10 M10 e10 q10 y12 M12 e12 q12 => by rw [eo]; exact vp_in_nI (by omega) (by decide)) (fun _ h5 y6 M6 e6 q6 y8 M8 e8 q8 y10 M10 e10 q10 y12 M12 e12 q12 => vp_in_nI (by omega) (by decide)) (fun _ h5 y6 M6 e6 q6 y8 M8 e8 q8 y10 M10 e10 q10 y12 M12 e12 q12 => ?_) (fun _ h5 => ?_)
        · obtain ⟨rfl, rfl⟩ := q6
          have := p1 (fb h5)
          exact c228 hl0 (fR g1) (by omega)
        · obtain ⟨rfl, rfl⟩ := q6
          obtain ⟨rfl, rfl⟩ := q8
          obtain ⟨rfl, rfl⟩ := q10
          have := p1 (fb h5)
          rw [g3, nI_subN (by omega) (by omega), show nI (H.pe - pcN s) - Int32.ofInt 1 = nI (H.pe - pcN s - 1) from nI_subN (b := 1) (by omega) (by omega), show H.pe - pcN s - 1 = H.pe - 1 - pcN s by omega]
          exact c228 hl0 (fR g1) (by omega)
        · obtain ⟨rfl, rfl⟩ := q6
          obtain ⟨rfl, rfl⟩ := q8
          obtain ⟨rfl, rfl⟩ := q10
          obtain ⟨rfl, rfl⟩ := q12
          have hb := fb h5
          have m8 := (mxV_s (H := H) (lf := s ||| 2 ^ p)).1
          rw [eo, nI_clamp (n := s ||| 2 ^ p) (by omega), nI_clamp (n := s) (by omega), g4 _ ol, g4 _ sl, nx, nI_subN (mxV_up (H := H) (lf := s) (q := p)) (by omega), nI_mulN, nI_mulN, nI_add]
          have k2 := ih (s + 1) (by omega)
          rw [show gwV H p (s + 1) = gwV H p s + gwT H p s from rfl, show gwT H p s = fac (pcN s) * fac (H.pe - 1 - pcN s) * (mxV H (s ||| 2 ^ p) - mxV H s) from if_neg (by rw [hb]; decide)] at k2
          exact k2
        · have k2 := ih (s + 1) (by omega)
          rw [show gwV H p (s + 1) = gwV H p s + gwT H p s from rfl, show gwT H p s = 0 from if_pos (tb.mp h5), Nat.add_zero] at k2
          rw [nx]
          exact k2
    have first : ∀ (d s : Nat) (Mc : aM), s + d = 2 ^ H.pe → Mc.2.2 = M.2.2 → (∀ a k, a ≠ 76 → a ≠ 77 → a ≠ 78 → a ≠ 83 → Mc.1 a k = M9.1 a k) → (∀ t, t < s → Mc.1 83 t = nI (mxV H t)) → AW l (pI pg 228) (fcI M (fun z M' => mO (woO H x y) z M')) 0 0 44 [(3, .int (nI s)), (2, .int y), (1, .int (nI p)), (0, .ref 58)] [] SHF Mc := by
      intro d
      induction d with
      | zero =>
        intro s Mc hs g1 g2 g3
        have es : s = 2 ^ H.pe := by omega
        subst es
        have f1 : Mc.1 58 1 = nI H.pe := (g2 58 1 (by decide) (by decide) (by decide) (by decide)).trans b1
        have f0 : Mc.1 58 0 = 0 := (g2 58 0 (by decide) (by decide) (by decide) (by decide)).trans b0
        have le : Int32.ofInt 1 <<< (Mc.1 58 1 &&& 31) ≤ nI (2 ^ H.pe) := by rw [f1, shW (by omega)]; exact Int32.le_refl _
        exact mwr_44 (fR g1) hl0 (fun _ => sum Mc g1 f0 f1 g3 (2 ^ H.pe) 0 (by omega)) (fun _ _ => True) (fun h => absurd le h) (fun h => absurd le h) (fun h => absurd le h)
      | succ d ih =>
        intro s Mc hs g1 g2 g3
        have sl : s < 2 ^ H.pe := by omega
        have f1 : Mc.1 58 1 = nI H.pe := (g2 58 1 (by decide) (by decide) (by decide) (by decide)).trans b1
        have ng : ¬ Int32.ofInt 1 <<< (Mc.1 58 1 &&& 31) ≤ nI s := by
          rw [f1, shW (by omega), nle (by omega) (by omega)]
          omega
        obtain ⟨d1, d2⟩ := mdl_of (left := s) hO q9.1 (by omega)
        have eN : (M9.1 58 1).toInt.toNat = H.pe := by rw [b1, nI_toInt (by omega)]; rfl
        have eW : dW (mkD M9 s) = H.wo := by
          show (M9.1 58 2).toInt.toNat = H.wo
          rw [b2, nI_toInt (by omega)]
          rfl
        rw [eN] at d1 d2
        have hmd : mdl Mc H.pe (mkD M9 s) (rwI Mc 76) := ⟨fR g1, (g2 58 2 (by decide) (by decide) (by decide) (by decide)).trans d1.2.1, (g2 58 1 (by decide) (by decide) (by decide) (by decide)).trans d1.2.2.1, fun q k => (g2 73 _ (by decide) (by decide) (by decide) (by decide)).trans (d1.2.2.2.1 q k), fun q => (g2 74 q (by decide) (by decide) (by decide) (by decide)).trans (d1.2.2.2.2.1 q), fun q w => by
          rw [g2 75 _ (by decide) (by decide) (by decide) (by decide)]
          exact d1.2.2.2.2.2.1 q w, fun w => rfl⟩
        have c : AC l (pI pg 216) (fcI Mc (fun y M' => (∀ a k, a ≠ 76 → a ≠ 77 → a ≠ 78 → M'.1 a k = Mc.1 a k) ∧ ∃ v, v ≤ 8 ∧ y = nI v ∧ mxO H (fun p => cdT H 0 p H.te) s H.pe (2 ^ H.wo) v)) 0 0 [.ref 58, .int (nI s)] SHF Mc := mosF_c hl0 w8 hmd d2 eW (lsAll_hL w8 q9.2.1)
        rw [cd_fun] at c
        refine mwr_44 (fR g1) hl0 (fun h => absurd h ng) _ (fun _ => c) (fun _ y3 M3 e3 q3 => vp_in_nI (by omega) (by decide)) (fun _ y3 M3 e3 q3 => ?_)
        obtain ⟨q3, v, v8, rfl, hv⟩ := q3
        rw [nI_clamp (by omega), show nI s + Int32.ofInt 1 = nI (s + 1) from nI_1 s, ← mxV_is hv]
        refine ih (s + 1) _ (by omega) (e3.trans g1) (fun a k a1 a2 a3 a4 => ?_) (fun t ht => ?_)
        · rw [set_1, if_neg a4]
          exact (q3 a k a1 a2 a3).trans (g2 a k a1 a2 a3 a4)
        · rw [set_1, if_pos rfl]
          by_cases e : t = s
          · rw [if_pos e, e]
          · rw [if_neg e, q3 83 t (by decide) (by decide) (by decide)]
            exact g3 t (by omega)
    have kf := first (2 ^ H.pe) 0 M9 (by omega) e9 (fun _ _ _ _ _ _ => rfl) (fun t ht => absurd ht (Nat.not_lt_zero _))
    rw [← xe] at kf ⊢
    exact kf
  refine fw_of hl0 ⟨by decide +kernel, by decide +kernel, by decide +kernel⟩ rfl ?_
  refine mwr_0 hR hl0 _ (isp_c (x := x) hl0 hR (m := H.pe) (by omega) hm.1) (fun y1 M1 e1 q1 h3 => ?_) (fun y1 M1 z M' => z = 1 ∧ M' = M0w M) (fun y1 M1 e1 q1 h3 h5 => ?_) (fun y1 M1 y6 M6 M' => JR R M' ∧ QlA H 0 (M0w M) M') (fun y1 M1 e1 q1 h3 h5 y6 M6 e6 q6 h8 => ?_) (fun y1 M1 e1 q1 h3 h5 y6 M6 e6 q6 h8 M9 e9 q9 => ?_) (fun y1 M1 e1 q1 h3 h5 y6 M6 e6 q6 h8 => ?_) (fun y1 M1 z M' => z = 0 ∧ M' = M1w M) (fun y1 M1 e1 q1 h3 h5 h13 => ?_) (fun _ _ _ _ _ => True) (fun y1 M1 e1 q1 h3 h5 h13 y14 M14 e14 q14 h16 => absurd q14.1 h16) (fun y1 M1 e1 q1 h3 h5 h13 y14 M14 e14 q14 h16 => absurd q14.1 h16) (fun y1 M1 e1 q1 h3 h5 h13 y14 M14 e14 q14 h16 => ?_) (fun y1 M1 z M' => z = 1 ∧ M' = M0w M) (fun y1 M1 e1 q1 h3 h5 h13 => ?_) (fun y1 M1 y21 M21 M' => JR R M' ∧ QlA H 0 (M0w M) M') (fun y1 M1 e1 q1 h3 h5 h13 y21 M21 e21 q21 h23 => ?_) (fun y1 M1 e1 q1 h3 h5 h13 y21 M21 e21 q21 h23 M24 e24 q24 => ?_) (fun y1 M1 e1 q1 h3 h5 h13 y21 M21 e21 q21 h23 => ?_)
  · obtain ⟨n1, -, rfl⟩ := q1.resolve_left (fun q => absurd (q.2.1.symm.trans h3) z1)
    exact ⟨rfl, e1, _, rfl, Or.inl ⟨by rw [woO, if_neg (fun q => n1 q.1)], rfl⟩⟩
  · obtain ⟨-, -, rfl⟩ := q1.resolve_right (fun q => h3 q.2.1)
    refine AC.post hl0 (fun r sh' M' hp => ?_) (rgh_c hl0 hR (b := Int32.ofInt 1))
    obtain ⟨r1, r2, z, r3, r4⟩ := hp
    have r5 := r4.resolve_right (fun q => z10 q.1)
    exact ⟨r1, r2, z, r3, r5.2⟩
  · obtain ⟨-, rfl⟩ := q6
    exact lal_j hl0 hk hR j0 hI m0
  · obtain ⟨n1, -, -⟩ := q1.resolve_right (fun q => h3 q.2.1)
    exact rest n1 (Or.inl h5) M9 (e9.trans (e6.trans e1)) q9
  · exact absurd (q6.1.symm.trans h8) z1
  · obtain ⟨-, -, rfl⟩ := q1.resolve_right (fun q => h3 q.2.1)
    refine AC.post hl0 (fun r sh' M' hp => ?_) (rgh_c hl0 hR (b := Int32.ofInt 0))
    obtain ⟨r1, r2, z, r3, r4⟩ := hp
    have r5 := r4.resolve_left (fun q => q.1 z00)
    exact ⟨r1, r2, z, r3, r5.2⟩
  · obtain ⟨-, rfl⟩ := q14
    exact ⟨rfl, e14.trans e1, _, rfl, Or.inl ⟨by rw [woO, if_neg (fun q => q.2.elim h5 h13)], rfl⟩⟩
  · obtain ⟨-, -, rfl⟩ := q1.resolve_right (fun q => h3 q.2.1)
    refine AC.post hl0 (fun r sh' M' hp => ?_) (rgh_c hl0 hR (b := Int32.ofInt 1))
    obtain ⟨r1, r2, z, r3, r4⟩ := hp
    have r5 := r4.resolve_right (fun q => z10 q.1)
    exact ⟨r1, r2, z, r3, r5.2⟩
  · obtain ⟨-, rfl⟩ := q21
    exact lal_j hl0 hk hR j0 hI m0
  · obtain ⟨n1, -, -⟩ := q1.resolve_right (fun q => h3 q.2.1)
    exact rest n1 (Or.inr h13) M24 (e24.trans (e21.trans e1)) q24
  · exact absurd (q21.1.symm.trans h23) z1
end WOR
