/-! ANY: who is missed, which couples, whether it holds -/
def aw1 (n p : Nat) : Nat := (2 ^ n - 1) ^^^ 2 ^ p
def aw2 (n p q : Nat) : Nat := ((2 ^ n - 1) ^^^ 2 ^ p) ^^^ 2 ^ q
theorem aw1_lt : ∀ n, n ≤ 6 → ∀ p, p < n → aw1 n p < 2 ^ n := by decide +kernel
theorem aw2_lt : ∀ n, n ≤ 6 → ∀ p, p < n → ∀ q, q < n → aw2 n p q < 2 ^ n := by decide +kernel
theorem aw2_sy {n p q : Nat} : aw2 n p q = aw2 n q p := by
  unfold aw2
  rw [Nat.xor_assoc, Nat.xor_comm (2 ^ p), ← Nat.xor_assoc]
theorem aw1_c : ∀ n, n ≤ 6 → ∀ p, p < n → nI (2 ^ n - 1) ^^^ (Int32.ofInt 1 <<< (nI p &&& 31)) = nI (aw1 n p) := by decide +kernel
theorem aw2_c : ∀ n, n ≤ 6 → ∀ p, p < n → ∀ q, q < n → (nI (2 ^ n - 1) ^^^ (Int32.ofInt 1 <<< (nI p &&& 31))) ^^^ (Int32.ofInt 1 <<< (nI q &&& 31)) = nI (aw2 n p q) := by decide +kernel
theorem aw1_m : ∀ n, n ≤ 6 → ∀ p, p < n → nI (2 ^ n - 1) &&& ((Int32.ofInt 1 <<< (nI p &&& 31)) ^^^ Int32.ofInt (-1)) = nI (aw1 n p) := by decide +kernel
theorem aw2_m : ∀ n, n ≤ 6 → ∀ p, p < n → ∀ q, q < p → nI (2 ^ n - 1) &&& (((Int32.ofInt 1 <<< (nI p &&& 31)) ||| (Int32.ofInt 1 <<< (nI q &&& 31))) ^^^ Int32.ofInt (-1)) = nI (aw2 n p q) := by decide +kernel
/-- those who are left can do all -/
def canL (H : HS) (lf : Nat) : Prop := rea H H.cd lf H.pe (2 ^ H.wo - 1)
noncomputable def ncL (H : HS) (lf : Nat) : Nat := Classical.epsilon (fun n => (canL H lf ∧ n = 0) ∨ (¬ canL H lf ∧ n = 1))
section ANP
variable {H : HS} {lf : Nat}
theorem nc_s : (canL H lf ∧ ncL H lf = 0) ∨ (¬ canL H lf ∧ ncL H lf = 1) := Classical.epsilon_spec (p := fun n => (canL H lf ∧ n = 0) ∨ (¬ canL H lf ∧ n = 1)) ((Classical.em (canL H lf)).elim (fun h => ⟨0, Or.inl ⟨h, rfl⟩⟩) (fun h => ⟨1, Or.inr ⟨h, rfl⟩⟩))
theorem nc_y (h : canL H lf) : ncL H lf = 0 := (nc_s.resolve_right (fun q => q.1 h)).2
theorem nc_n (h : ¬ canL H lf) : ncL H lf = 1 := (nc_s.resolve_left (fun q => h q.1)).2
theorem nc_le : ncL H lf ≤ 1 := by
  rcases nc_s (H := H) (lf := lf) with h | h
  · rw [h.2]
    decide
  · rw [h.2]
    decide
theorem sF_cg {f g : Nat → Nat} : ∀ n, (∀ i, i < n → f i = g i) → smF f n = smF g n
  | 0, _ => rfl
  | n + 1, h => by
    show smF f n + f n = smF g n + g n
    rw [sF_cg n (fun i hi => h i (by omega)), h n (Nat.lt_succ_self _)]
theorem sF_ad {f g : Nat → Nat} : ∀ n, smF (fun i => f i + g i) n = smF f n + smF g n
  | 0 => rfl
  | n + 1 => by
    show smF (fun i => f i + g i) n + (f n + g n) = (smF f n + f n) + (smF g n + g n)
    rw [sF_ad n]
    omega
theorem sF_le {f : Nat → Nat} {b : Nat} : ∀ n, (∀ i, i < n → f i ≤ b) → smF f n ≤ b * n
  | 0, _ => Nat.zero_le _
  | n + 1, h => by
    have h1 := sF_le (f := f) (b := b) n (fun i hi => h i (by omega))
    have h2 := h n (Nat.lt_succ_self _)
    show smF f n + f n ≤ b * (n + 1)
    rw [Nat.mul_succ]
    omega
theorem sF_ex {c : Nat → Nat → Nat} (hc : ∀ p q, c p q = c q p) : ∀ n, smF (fun p => smF (fun i => c p (p + 1 + i)) (n - (p + 1))) n = smF (fun p => smF (fun q => c p q) p) n
  | 0 => rfl
  | n + 1 => by
    have ih := sF_ex hc n
    show smF (fun p => smF (fun i => c p (p + 1 + i)) (n + 1 - (p + 1))) n + smF (fun i => c n (n + 1 + i)) (n + 1 - (n + 1)) = smF (fun p => smF (fun q => c p q) p) n + smF (fun q => c n q) n
    rw [Nat.sub_self, ← ih, sF_cg (g := fun p => smF (fun i => c p (p + 1 + i)) (n - (p + 1)) + c p n) n (fun p hp => ?_), sF_ad, sF_cg (f := fun q => c n q) (g := fun p => c p n) n (fun q _ => hc n q)]
    · rfl
    · have e : n + 1 - (p + 1) = (n - (p + 1)) + 1 := by omega
      rw [e]
      show smF (fun i => c p (p + 1 + i)) (n - (p + 1)) + c p (p + 1 + (n - (p + 1))) = _
      rw [show p + 1 + (n - (p + 1)) = n by omega]
end ANP
/-- who is missed, as bits -/
noncomputable def mssV (H : HS) : Nat → Nat := smF (fun p => ncL H (aw1 H.pe p) * 2 ^ p)
noncomputable def coC (H : HS) (p q : Nat) : Nat := ncL H (aw2 H.pe p q)
noncomputable def coV (H : HS) : Nat → Nat := smF (fun p => smF (fun q => coC H p q) p)
theorem coC_sy {H : HS} (p q : Nat) : coC H p q = coC H q p := by
  unfold coC
  rw [aw2_sy]
theorem mssV_lt {H : HS} : ∀ n, mssV H n < 2 ^ n
  | 0 => by
    show 0 < 2 ^ 0
    decide
  | n + 1 => by
    have h1 := mssV_lt (H := H) n
    have h2 := nc_le (H := H) (lf := aw1 H.pe n)
    have h3 : ncL H (aw1 H.pe n) * 2 ^ n ≤ 1 * 2 ^ n := Nat.mul_le_mul_right _ h2
    show mssV H n + ncL H (aw1 H.pe n) * 2 ^ n < 2 ^ (n + 1)
    rw [Nat.pow_succ]
    omega
theorem mssV_y {H : HS} {n : Nat} (h : canL H (aw1 H.pe n)) : mssV H (n + 1) = mssV H n := by
  show mssV H n + ncL H (aw1 H.pe n) * 2 ^ n = _
  rw [nc_y h, Nat.zero_mul, Nat.add_zero]
theorem mssV_n {H : HS} {n : Nat} (h : ¬ canL H (aw1 H.pe n)) : mssV H n ||| 2 ^ n = mssV H (n + 1) := by
  have e := Nat.two_pow_add_eq_or_of_lt (mssV_lt (H := H) n) 1
  rw [Nat.mul_one] at e
  show _ = mssV H n + ncL H (aw1 H.pe n) * 2 ^ n
  rw [nc_n h, Nat.one_mul, Nat.or_comm, ← e, Nat.add_comm]
theorem coI_le {H : HS} {p : Nat} (k : Nat) : smF (fun q => coC H p q) k ≤ 1 * k := sF_le k (fun _ _ => nc_le)
theorem coV_le {H : HS} {n : Nat} (h : n ≤ 6) : coV H n ≤ 6 * n := sF_le n (fun p hp => Nat.le_trans (coI_le p) (by omega))
def ho1 (H : HS) : Prop := ∀ p, p < H.pe → canL H (aw1 H.pe p)
def ho2 (H : HS) : Prop := (H.pe = 1 → canL H (aw1 H.pe 0)) ∧ ∀ p, p < H.pe → ∀ q, q < p → canL H (aw2 H.pe p q)
def anP (H : HS) (x z : Int32) : Prop := (x = nI 0 ∧ z = nI (mssV H H.pe)) ∨ (x = nI 1 ∧ z = nI (coV H H.pe)) ∨ (x = nI 2 ∧ ((z = nI 1 ∧ ho1 H) ∨ (z = nI 0 ∧ ¬ ho1 H))) ∨ (x = nI 3 ∧ ((z = nI 1 ∧ ho2 H) ∨ (z = nI 0 ∧ ¬ ho2 H)))
noncomputable def piN (m : Nat) (p : Int32 → Prop) (x : Int32) : Option Int32 := if inN m x then some (Classical.epsilon p) else none
theorem pn_no {m : Nat} {p : Int32 → Prop} {x : Int32} (h : ¬ inN m x) : piN m p x = none := if_neg h
theorem pn_is {m : Nat} {p : Int32 → Prop} {x z : Int32} (h : inN m x) (hz : p z) (hu : ∀ y z, p y → p z → y = z) : piN m p x = some z := by
  rw [piN, if_pos h, hu _ z (Classical.epsilon_spec ⟨z, hz⟩) hz]
theorem n01 : ¬ nI 0 = nI 1 := by decide
theorem n02 : ¬ nI 0 = nI 2 := by decide
theorem n03 : ¬ nI 0 = nI 3 := by decide
theorem n12 : ¬ nI 1 = nI 2 := by decide
theorem n13 : ¬ nI 1 = nI 3 := by decide
theorem n23 : ¬ nI 2 = nI 3 := by decide
theorem yn_u {B : Prop} {y z : Int32} (h1 : (y = nI 1 ∧ B) ∨ (y = nI 0 ∧ ¬ B)) (h2 : (z = nI 1 ∧ B) ∨ (z = nI 0 ∧ ¬ B)) : y = z := by
  rcases h1 with ⟨a, b⟩ | ⟨a, b⟩ <;> rcases h2 with ⟨c, d⟩ | ⟨c, d⟩
  · rw [a, c]
  · exact absurd b d
  · exact absurd d b
  · rw [a, c]
theorem anP_u {H : HS} {x : Int32} : ∀ y z, anP H x y → anP H x z → y = z := by
  rintro y z (⟨a, b⟩ | ⟨a, b⟩ | ⟨a, b⟩ | ⟨a, b⟩) (⟨c, d⟩ | ⟨c, d⟩ | ⟨c, d⟩ | ⟨c, d⟩)
  · rw [b, d]
  · exact absurd (a.symm.trans c) n01
  · exact absurd (a.symm.trans c) n02
  · exact absurd (a.symm.trans c) n03
  · exact absurd (c.symm.trans a) n01
  · rw [b, d]
  · exact absurd (a.symm.trans c) n12
  · exact absurd (a.symm.trans c) n13
  · exact absurd (c.symm.trans a) n02
  · exact absurd (c.symm.trans a) n12
  · exact yn_u b d
  · exact absurd (a.symm.trans c) n23
  · exact absurd (c.symm.trans a) n03
  · exact absurd (c.symm.trans a) n13
  · exact absurd (c.symm.trans a) n23
  · exact yn_u b d
theorem in4 {x : Int32} (h : inN 4 x) : x = nI 0 ∨ x = nI 1 ∨ x = nI 2 ∨ x = nI 3 := by
  have h1 := inN_lt h
  have h2 := inN_eq h
  generalize x.toNatClampNeg = k at h1 h2
  subst h2
  rcases (show k = 0 ∨ k = 1 ∨ k = 2 ∨ k = 3 by omega) with e | e | e | e <;> subst e
  · exact Or.inl rfl
  · exact Or.inr (Or.inl rfl)
  · exact Or.inr (Or.inr (Or.inl rfl))
  · exact Or.inr (Or.inr (Or.inr rfl))
theorem in4_of {k : Nat} (h : k < 4) : inN 4 (nI k) := by
  unfold inN
  rw [nI_toInt (by omega)]
  omega
/-! of the class -/
section ANC
variable {l : aL} {M : aM} {H : HS}
theorem incG_c (hl0 : l.1.stackTraces = false) (hR : ∀ e ∈ RL, M.2.2 e.1 e.2.1 = e.2.2) {t : Nat} {w : Int64} (ht : t < 256) : AC l (pI pg 119) (fcI M (fun y M' => M' = M ∧ ((y = nI 1 ∧ ∀ i, i < 64 → bL w i = true → bL (lgV M 34 t) i = true) ∨ (y = nI 0 ∧ ¬ ∀ i, i < 64 → bL w i = true → bL (lgV M 34 t) i = true)))) 0 0 [.ref 33, .int (nI t), .long w] SHF M := by
  refine fw_of hl0 ⟨by decide +kernel, by decide +kernel, by decide +kernel⟩ rfl ?_
  refine inc_0 hR hl0 (vp_in_nI (by omega) (by decide)) (fun h2 => ?_) (fun h2 => ?_)
  · rw [nI_clamp (by omega), lgc, bL_inc] at h2
    exact ⟨rfl, rfl, _, rfl, rfl, Or.inr ⟨rfl, h2⟩⟩
  · rw [nI_clamp (by omega), lgc, bL_inc] at h2
    exact ⟨rfl, rfl, _, rfl, rfl, Or.inl ⟨rfl, h2⟩⟩
theorem abC (hS : SL H M) (hI : HI H) {lf : Nat} (h : lf < 2 ^ H.pe) : bL (lgV M 34 (2 ^ H.wo - 1)) lf = true ↔ canL H lf := by
  have p6 := pw_le hI.pe
  have := hS.2.1 (2 ^ H.wo - 1) (by have := Nat.two_pow_pos H.wo; omega) lf (by omega)
  exact this.trans ⟨fun g => g.2, fun g => ⟨h, g⟩⟩
theorem inc1_c (hl0 : l.1.stackTraces = false) (hR : ∀ e ∈ RL, M.2.2 e.1 e.2.1 = e.2.2) (hI : HI H) (hS : SL H M) {lf : Nat} (h : lf < 2 ^ H.pe) : AC l (pI pg 119) (fcI M (fun y M' => M' = M ∧ ((y = nI 1 ∧ canL H lf) ∨ (y = nI 0 ∧ ¬ canL H lf)))) 0 0 [.ref 33, .int (nI (2 ^ H.wo - 1)), .long ((Int64.ofNat (1 : Fin 2)) <<< ((nI lf).toInt64 &&& 63))] SHF M := by
  have P8 := p2_8 hI.2.1
  have p6 := pw_le hI.pe
  have wpos := Nat.two_pow_pos H.wo
  refine AC.post hl0 (fun r sh' M' hp => ?_) (inc_c hl0 hR (t := 2 ^ H.wo - 1) (lf := lf) (by omega) (by omega))
  obtain ⟨r1, r2, y, r3, r4, r5⟩ := hp
  refine ⟨r1, r2, y, r3, r4, ?_⟩
  rcases r5 with ⟨a, b⟩ | ⟨a, b⟩
  · exact Or.inl ⟨a, (abC hS hI h).mp b⟩
  · exact Or.inr ⟨a, fun g => by rw [(abC hS hI h).mpr g] at b; cases b⟩
end ANC
section ANA
variable {l : aL} {M : aM} {H : HS} {x : Int32}
theorem waoa_c (hl0 : l.1.stackTraces = false) (hI : HI H) (hH : cHo 4 H M) : AC l (pI pg 31) (fcJ M (fun f M' => M' = M ∧ ∀ i, i < 64 → (bL f i = true ↔ ∃ p, p < H.pe ∧ i = aw1 H.pe p))) 0 0 [.ref 4] SHF M := by
  have hp6 := hI.pe
  have p6 := pw_le hp6
  refine fw_of hl0 ⟨by decide +kernel, by decide +kernel, by decide +kernel⟩ rfl ?_
  refine waoa_0 hl0 ?_
  have loop : ∀ (d p : Nat) (f : Int64), p + d = H.pe → (∀ i, i < 64 → (bL f i = true ↔ ∃ q, q < p ∧ i = aw1 H.pe q)) → AW l (pI pg 31) (fcJ M (fun f M' => M' = M ∧ ∀ i, i < 64 → (bL f i = true ↔ ∃ p, p < H.pe ∧ i = aw1 H.pe p))) 0 0 4 [(3, .int (nI p)), (1, .long f), (0, .ref 4)] [] SHF M := by
    intro d
    induction d with
    | zero =>
      intro p f hp hf
      have ep : p = H.pe := by omega
      subst ep
      have le : M.1 4 0 ≤ nI H.pe := by rw [hH.pe]; exact Int32.le_refl _
      exact waoa_4 hl0 (fun _ => ⟨rfl, rfl, _, rfl, rfl, hf⟩) (fun _ _ => True) (fun h => absurd le h) (fun h => absurd le h)
    | succ d ih =>
      intro p f hp hf
      have ng : ¬ M.1 4 0 ≤ nI p := by
        rw [hH.pe, nle (by omega) (by omega)]
        omega
      refine waoa_4 hl0 (fun h => absurd h ng) _ (fun _ => alpa_c hl0 hI hH) (fun _ y3 M3 e3 q3 => ?_)
      obtain ⟨rfl, rfl⟩ := q3
      rw [aw1_c H.pe hp6 p (by omega), show nI p + Int32.ofInt 1 = nI (p + 1) from nI_1 p]
      have al := aw1_lt H.pe hp6 p (by omega)
      refine ih (p + 1) _ (by omega) (fun i hi => ?_)
      rw [bL_or, Bool.or_eq_true, hf i hi, show bL ((Int64.ofNat (1 : Fin 2)) <<< ((nI (aw1 H.pe p)).toInt64 &&& 63)) i = decide (i = aw1 H.pe p) from bL_one (by omega), decide_eq_true_eq]
      constructor
      · rintro (⟨q, q1, q2⟩ | e)
        · exact ⟨q, by omega, q2⟩
        · exact ⟨p, by omega, e⟩
      · rintro ⟨q, q1, q2⟩
        by_cases e : q = p
        · subst e
          exact Or.inr q2
        · exact Or.inl ⟨q, by omega, q2⟩
  refine loop H.pe 0 _ (by omega) (fun i hi => ?_)
  rw [show bL (Int64.ofNat (0 : Fin 2)) i = false from bL_0]
  exact ⟨fun h => (by cases h), fun ⟨q, h, _⟩ => absurd h (Nat.not_lt_zero _)⟩
theorem wata_c (hl0 : l.1.stackTraces = false) (hI : HI H) (hH : cHo 4 H M) : AC l (pI pg 127) (fcJ M (fun f M' => M' = M ∧ ∀ i, i < 64 → (bL f i = true ↔ (H.pe = 1 ∧ i = aw1 H.pe 0) ∨ ∃ p q, q < p ∧ p < H.pe ∧ i = aw2 H.pe p q))) 0 0 [.ref 4] SHF M := by
  have hp6 := hI.pe
  have p6 := pw_le hp6
  have e1 : M.1 4 0 = Int32.ofInt 1 ↔ H.pe = 1 := by
    rw [hH.pe, z_1, nI_eq (by omega) (by decide)]
  refine fw_of hl0 ⟨by decide +kernel, by decide +kernel, by decide +kernel⟩ rfl ?_
  refine wata_0 hl0 (fun h1 => ?_) _ (fun h1 => waoa_c hl0 hI hH) (fun h1 y3 M3 e3 q3 => ?_)
  · have n1 : ¬ H.pe = 1 := fun g => h1 (e1.mpr g)
    have outer : ∀ (d p : Nat) (f : Int64), p + d = H.pe → (∀ i, i < 64 → (bL f i = true ↔ ∃ a b, a < b ∧ b < H.pe ∧ a < p ∧ i = aw2 H.pe a b)) → AW l (pI pg 127) (fcJ M (fun f M' => M' = M ∧ ∀ i, i < 64 → (bL f i = true ↔ (H.pe = 1 ∧ i = aw1 H.pe 0) ∨ ∃ p q, q < p ∧ p < H.pe ∧ i = aw2 H.pe p q))) 0 0 17 [(3, .int (nI p)), (1, .long f), (0, .ref 4)] [] SHF M := by
      intro d
      induction d with
      | zero =>
        intro p f hp hf
        have ep : p = H.pe := by omega
        subst ep
        have le : M.1 4 0 ≤ nI H.pe := by rw [hH.pe]; exact Int32.le_refl _
        refine wata_17 hl0 (fun _ => ⟨rfl, rfl, _, rfl, rfl, fun i hi => (hf i hi).trans ⟨?_, ?_⟩⟩) (fun h => absurd le h)
        · rintro ⟨a, b, h1, h2, -, h3⟩
          exact Or.inr ⟨b, a, h1, h2, h3.trans aw2_sy⟩
        · rintro (⟨h, -⟩ | ⟨b, a, h1, h2, h3⟩)
          · exact absurd h n1
          · exact ⟨a, b, h1, h2, by omega, h3.trans aw2_sy⟩
      | succ d ih =>
        intro p f hp hf
        have ng : ¬ M.1 4 0 ≤ nI p := by
          rw [hH.pe, nle (by omega) (by omega)]
          omega
        refine wata_17 hl0 (fun h => absurd h ng) (fun _ => ?_)
        rw [show nI p + Int32.ofInt 1 = nI (p + 1) from nI_1 p]
        have inner : ∀ (d2 q : Nat) (f : Int64), q + d2 = H.pe → p < q → (∀ i, i < 64 → (bL f i = true ↔ ∃ a b, a < b ∧ b < H.pe ∧ (a < p ∨ (a = p ∧ b < q)) ∧ i = aw2 H.pe a b)) → AW l (pI pg 127) (fcJ M (fun f M' => M' = M ∧ ∀ i, i < 64 → (bL f i = true ↔ (H.pe = 1 ∧ i = aw1 H.pe 0) ∨ ∃ p q, q < p ∧ p < H.pe ∧ i = aw2 H.pe p q))) 0 0 30 [(4, .int (nI q)), (3, .int (nI p)), (1, .long f), (0, .ref 4)] [] SHF M := by
          intro d2
          induction d2 with
          | zero =>
            intro q f hq hpq hf
            have eq : q = H.pe := by omega
            subst eq
            have le : M.1 4 0 ≤ nI H.pe := by rw [hH.pe]; exact Int32.le_refl _
            refine wata_30 hl0 (fun _ => ?_) (fun _ _ => True) (fun h => absurd le h) (fun h => absurd le h)
            rw [show nI p + Int32.ofInt 1 = nI (p + 1) from nI_1 p]
            refine ih (p + 1) f (by omega) (fun i hi => (hf i hi).trans ⟨?_, ?_⟩)
            · rintro ⟨a, b, h1, h2, h3, h4⟩
              exact ⟨a, b, h1, h2, by omega, h4⟩
            · rintro ⟨a, b, h1, h2, h3, h4⟩
              exact ⟨a, b, h1, h2, by omega, h4⟩
          | succ d2 ih2 =>
            intro q f hq hpq hf
            have ng2 : ¬ M.1 4 0 ≤ nI q := by
              rw [hH.pe, nle (by omega) (by omega)]
              omega
            refine wata_30 hl0 (fun h => absurd h ng2) _ (fun _ => alpa_c hl0 hI hH) (fun _ y3 M3 e3 q3 => ?_)
            obtain ⟨rfl, rfl⟩ := q3
            rw [aw2_c H.pe hp6 p (by omega) q (by omega), show nI q + Int32.ofInt 1 = nI (q + 1) from nI_1 q]
            have al := aw2_lt H.pe hp6 p (by omega) q (by omega)
            refine ih2 (q + 1) _ (by omega) (by omega) (fun i hi => ?_)
            rw [bL_or, Bool.or_eq_true, hf i hi, show bL ((Int64.ofNat (1 : Fin 2)) <<< ((nI (aw2 H.pe p q)).toInt64 &&& 63)) i = decide (i = aw2 H.pe p q) from bL_one (by omega), decide_eq_true_eq]
            constructor
            · rintro (⟨a, b, h1, h2, h3, h4⟩ | e)
              · exact ⟨a, b, h1, h2, by omega, h4⟩
              · exact ⟨p, q, hpq, by omega, by omega, e⟩
            · rintro ⟨a, b, h1, h2, h3, h4⟩
              by_cases e : a = p ∧ b = q
              · obtain ⟨rfl, rfl⟩ := e
                exact Or.inr h4
              · exact Or.inl ⟨a, b, h1, h2, by omega, h4⟩
        refine inner (H.pe - (p + 1)) (p + 1) f (by omega) (by omega) (fun i hi => (hf i hi).trans ⟨?_, ?_⟩)
        · rintro ⟨a, b, h1, h2, h3, h4⟩
          exact ⟨a, b, h1, h2, by omega, h4⟩
        · rintro ⟨a, b, h1, h2, h3, h4⟩
          exact ⟨a, b, h1, h2, by omega, h4⟩
    refine outer H.pe 0 _ (by omega) (fun i hi => ?_)
    rw [show bL (Int64.ofNat (0 : Fin 2)) i = false from bL_0]
    exact ⟨fun h => (by cases h), fun ⟨a, b, _, _, h, _⟩ => absurd h (Nat.not_lt_zero _)⟩
  · obtain ⟨rfl, q3⟩ := q3
    have n1 := e1.mp h1
    refine ⟨rfl, rfl, _, rfl, rfl, fun i hi => (q3 i hi).trans ⟨?_, ?_⟩⟩
    · rintro ⟨p, h1, h2⟩
      have ep : p = 0 := by omega
      subst ep
      exact Or.inl ⟨n1, h2⟩
    · rintro (⟨-, h2⟩ | ⟨p, q, h1, h2, h3⟩)
      · exact ⟨0, by omega, h2⟩
      · omega
theorem mipa_c (hl0 : l.1.stackTraces = false) (hR : ∀ e ∈ RL, M.2.2 e.1 e.2.1 = e.2.2) (hI : HI H) (hH : cHo 4 H M) (hS : SL H M) : AC l (pI pg 125) (fcI M (fun y M' => M' = M ∧ y = nI (mssV H H.pe))) 0 0 [.ref 33, .ref 4] SHF M := by
  have hp6 := hI.pe
  have p6 := pw_le hp6
  refine fw_of hl0 ⟨by decide +kernel, by decide +kernel, by decide +kernel⟩ rfl ?_
  refine mipa_0 hl0 ?_
  have loop : ∀ (d p : Nat), p + d = H.pe → AW l (pI pg 125) (fcI M (fun y M' => M' = M ∧ y = nI (mssV H H.pe))) 0 0 4 [(3, .int (nI p)), (2, .int (nI (mssV H p))), (1, .ref 4), (0, .ref 33)] [] SHF M := by
    intro d
    induction d with
    | zero =>
      intro p hp
      have ep : p = H.pe := by omega
      subst ep
      have le : M.1 4 0 ≤ nI H.pe := by rw [hH.pe]; exact Int32.le_refl _
      exact mipa_4 hl0 (fun _ => ⟨rfl, rfl, _, rfl, rfl, rfl⟩) (fun _ _ => True) (fun h => absurd le h) (fun _ _ _ _ => True) (fun h => absurd le h) (fun _ _ _ _ _ _ => True) (fun h => absurd le h) (fun h => absurd le h) (fun h => absurd le h)
    | succ d ih =>
      intro p hp
      have ng : ¬ M.1 4 0 ≤ nI p := by
        rw [hH.pe, nle (by omega) (by omega)]
        omega
      have al := aw1_lt H.pe hp6 p (by omega)
      refine mipa_4 hl0 (fun h => absurd h ng) (fun y M' => M' = M ∧ y = nI (2 ^ H.wo - 1)) (fun _ => alwa_c hl0 hI.2.1 hH.wo) (fun _ M3 y M' => nI (2 ^ H.pe - 1) = y ∧ M3 = M') (fun _ y3 M3 e3 q3 => ?_) (fun _ _ _ M5 y M' => M' = M5 ∧ ((y = nI 1 ∧ canL H (aw1 H.pe p)) ∨ (y = nI 0 ∧ ¬ canL H (aw1 H.pe p)))) (fun _ y3 M3 e3 q3 y5 M5 e5 q5 => ?_) (fun _ y3 M3 e3 q3 y5 M5 e5 q5 y7 M7 e7 q7 h9 => ?_) (fun _ y3 M3 e3 q3 y5 M5 e5 q5 y7 M7 e7 q7 h9 => ?_)
      · obtain ⟨rfl, -⟩ := q3
        exact alpa_c hl0 hI hH
      · obtain ⟨rfl, rfl⟩ := q3
        obtain ⟨rfl, rfl⟩ := q5
        rw [aw1_c H.pe hp6 p (by omega)]
        exact inc1_c hl0 hR hI hS al
      · obtain ⟨rfl, -⟩ := q3
        obtain ⟨-, rfl⟩ := q5
        obtain ⟨rfl, q7⟩ := q7
        have cy : canL H (aw1 H.pe p) := (q7.resolve_right (fun q => h9 q.1)).2
        rw [show nI p + Int32.ofInt 1 = nI (p + 1) from nI_1 p, ← mssV_y cy]
        exact ih (p + 1) (by omega)
      · obtain ⟨rfl, -⟩ := q3
        obtain ⟨-, rfl⟩ := q5
        obtain ⟨rfl, q7⟩ := q7
        have cn : ¬ canL H (aw1 H.pe p) := (q7.resolve_left (fun q => absurd (q.1.symm.trans h9) (by decide))).2
        have ml := mssV_lt (H := H) p
        have pl : 2 ^ p ≤ 2 ^ 6 := Nat.pow_le_pow_right (by decide) (by omega)
        rw [show nI p + Int32.ofInt 1 = nI (p + 1) from nI_1 p, shW (show p ≤ 8 by omega), nI_orN (by omega) (by omega), mssV_n cn]
        exact ih (p + 1) (by omega)
  exact loop H.pe 0 (by omega)
theorem mica_c (hl0 : l.1.stackTraces = false) (hR : ∀ e ∈ RL, M.2.2 e.1 e.2.1 = e.2.2) (hI : HI H) (hH : cHo 4 H M) (hS : SL H M) : AC l (pI pg 126) (fcI M (fun y M' => M' = M ∧ y = nI (coV H H.pe))) 0 0 [.ref 33, .ref 4] SHF M := by
  have hp6 := hI.pe
  have p6 := pw_le hp6
  refine fw_of hl0 ⟨by decide +kernel, by decide +kernel, by decide +kernel⟩ rfl ?_
  refine mica_0 hl0 ?_
  have ex := sF_ex (c := coC H) coC_sy H.pe
  have outer : ∀ (d p : Nat), p + d = H.pe → AW l (pI pg 126) (fcI M (fun y M' => M' = M ∧ y = nI (coV H H.pe))) 0 0 4 [(3, .int (nI p)), (2, .int (nI (smF (fun a => smF (fun i => coC H a (a + 1 + i)) (H.pe - (a + 1))) p))), (1, .ref 4), (0, .ref 33)] [] SHF M := by
    intro d
    induction d with
    | zero =>
      intro p hp
      have ep : p = H.pe := by omega
      subst ep
      have le : M.1 4 0 ≤ nI H.pe := by rw [hH.pe]; exact Int32.le_refl _
      exact mica_4 hl0 (fun _ => ⟨rfl, rfl, _, rfl, rfl, congrArg nI ex⟩) (fun h => absurd le h)
    | succ d ih =>
      intro p hp
      have ng : ¬ M.1 4 0 ≤ nI p := by
        rw [hH.pe, nle (by omega) (by omega)]
        omega
      refine mica_4 hl0 (fun h => absurd h ng) (fun _ => ?_)
      rw [show nI p + Int32.ofInt 1 = nI (p + 1 + 0) from nI_1 p]
      have inner : ∀ (d2 j : Nat), p + 1 + j + d2 = H.pe → AW l (pI pg 126) (fcI M (fun y M' => M' = M ∧ y = nI (coV H H.pe))) 0 0 17 [(4, .int (nI (p + 1 + j))), (3, .int (nI p)), (2, .int (nI (smF (fun a => smF (fun i => coC H a (a + 1 + i)) (H.pe - (a + 1))) p + smF (fun i => coC H p (p + 1 + i)) j))), (1, .ref 4), (0, .ref 33)] [] SHF M := by
        intro d2
        induction d2 with
        | zero =>
          intro j hj
          have ej : j = H.pe - (p + 1) := by omega
          have le : M.1 4 0 ≤ nI (p + 1 + j) := by
            rw [hH.pe, nle (by omega) (by omega)]
            omega
          refine mica_17 hl0 (fun _ => ?_) (fun _ _ => True) (fun h => absurd le h) (fun _ _ _ _ => True) (fun h => absurd le h) (fun _ _ _ _ _ _ => True) (fun h => absurd le h) (fun h => absurd le h) (fun h => absurd le h)
          rw [show nI p + Int32.ofInt 1 = nI (p + 1) from nI_1 p]
          have k := ih (p + 1) (by omega)
          rw [ej]
          exact k
        | succ d2 ih2 =>
          intro j hj
          have ng2 : ¬ M.1 4 0 ≤ nI (p + 1 + j) := by
            rw [hH.pe, nle (by omega) (by omega)]
            omega
          have al := aw2_lt H.pe hp6 p (by omega) (p + 1 + j) (by omega)
          refine mica_17 hl0 (fun h => absurd h ng2) (fun y M' => nI (2 ^ H.pe - 1) = y ∧ M = M') (fun _ => alpa_c hl0 hI hH) (fun _ M3 y M' => M' = M3 ∧ y = nI (2 ^ H.wo - 1)) (fun _ y3 M3 e3 q3 => ?_) (fun _ _ _ M5 y M' => M' = M5 ∧ ((y = nI 1 ∧ canL H (aw2 H.pe p (p + 1 + j))) ∨ (y = nI 0 ∧ ¬ canL H (aw2 H.pe p (p + 1 + j))))) (fun _ y3 M3 e3 q3 y5 M5 e5 q5 => ?_) (fun _ y3 M3 e3 q3 y5 M5 e5 q5 y7 M7 e7 q7 h9 => ?_) (fun _ y3 M3 e3 q3 y5 M5 e5 q5 y7 M7 e7 q7 h9 => ?_)
          · obtain ⟨-, rfl⟩ := q3
            exact alwa_c hl0 hI.2.1 hH.wo
          · obtain ⟨rfl, rfl⟩ := q3
            obtain ⟨rfl, rfl⟩ := q5
            rw [aw2_c H.pe hp6 p (by omega) (p + 1 + j) (by omega)]
            exact inc1_c hl0 hR hI hS al
          · obtain ⟨-, rfl⟩ := q3
            obtain ⟨rfl, -⟩ := q5
            obtain ⟨rfl, q7⟩ := q7
            have cy := (q7.resolve_right (fun q => h9 q.1)).2
            have k := ih2 (j + 1) (by omega)
            rw [show smF (fun i => coC H p (p + 1 + i)) (j + 1) = smF (fun i => coC H p (p + 1 + i)) j + coC H p (p + 1 + j) from rfl, show coC H p (p + 1 + j) = 0 from nc_y cy, Nat.add_zero] at k
            rw [show nI (p + 1 + j) + Int32.ofInt 1 = nI (p + 1 + j + 1) from nI_1 _]
            exact k
          · obtain ⟨-, rfl⟩ := q3
            obtain ⟨rfl, -⟩ := q5
            obtain ⟨rfl, q7⟩ := q7
            have cn := (q7.resolve_left (fun q => absurd (q.1.symm.trans h9) (by decide))).2
            have k := ih2 (j + 1) (by omega)
            rw [show smF (fun i => coC H p (p + 1 + i)) (j + 1) = smF (fun i => coC H p (p + 1 + i)) j + coC H p (p + 1 + j) from rfl, show coC H p (p + 1 + j) = 1 from nc_n cn, ← Nat.add_assoc] at k
            rw [show nI (p + 1 + j) + Int32.ofInt 1 = nI (p + 1 + j + 1) from nI_1 _, (show ∀ m, nI m + Int32.ofInt 1 = nI (m + 1) from fun m => nI_1 m)]
            exact k
      exact inner (H.pe - (p + 1)) 0 (by omega)
  exact outer H.pe 0 (by omega)
theorem anya_c (hl0 : l.1.stackTraces = false) (hJ : JR RR M) (hI : HI H) (hH : cHo 4 H M) (hS : SL H M) : AC l (pI pg 124) (tcO "java/util/NoSuchElementException" M (piN 4 (anP H x) x)) 2 12 [.ref 0, .int x] SHF M := by
  have hp6 := hI.pe
  have P8 := p2_8 hI.2.1
  have wpos := Nat.two_pow_pos H.wo
  have hR : ∀ e ∈ RL, M.2.2 e.1 e.2.1 = e.2.2 := fun e he => hJ.2 e (rl_RR e he)
  have go : ∀ {k : Nat} {z : Int32}, k < 4 → x = Int32.ofInt k → anP H x z → tcO "java/util/NoSuchElementException" M (piN 4 (anP H x) x) (.inl (some (.int z))) SHF M := fun {k z} hk e hz => ⟨rfl, rfl, Or.inr ⟨z, pn_is (by rw [e]; exact in4_of hk) hz anP_u, rfl⟩⟩
  have one : ∀ {f : Int64}, (∀ i, i < 64 → (bL f i = true ↔ ∃ p, p < H.pe ∧ i = aw1 H.pe p)) → ((∀ i, i < 64 → bL f i = true → bL (lgV M 34 (2 ^ H.wo - 1)) i = true) ↔ ho1 H) := fun {f} hf => by
    constructor
    · intro h p hp
      have al := aw1_lt H.pe hp6 p hp
      have := pw_le hp6
      exact (abC hS hI al).mp (h _ (by omega) ((hf _ (by omega)).mpr ⟨p, hp, rfl⟩))
    · intro h i hi g
      obtain ⟨p, hp, rfl⟩ := (hf i hi).mp g
      exact (abC hS hI (aw1_lt H.pe hp6 p hp)).mpr (h p hp)
  have two : ∀ {f : Int64}, (∀ i, i < 64 → (bL f i = true ↔ (H.pe = 1 ∧ i = aw1 H.pe 0) ∨ ∃ p q, q < p ∧ p < H.pe ∧ i = aw2 H.pe p q)) → ((∀ i, i < 64 → bL f i = true → bL (lgV M 34 (2 ^ H.wo - 1)) i = true) ↔ ho2 H) := fun {f} hf => by
    have := pw_le hp6
    constructor
    · intro h
      refine ⟨fun e => ?_, fun p hp q hq => ?_⟩
      · have al := aw1_lt H.pe hp6 0 (by omega)
        exact (abC hS hI al).mp (h _ (by omega) ((hf _ (by omega)).mpr (Or.inl ⟨e, rfl⟩)))
      · have al := aw2_lt H.pe hp6 p hp q (by omega)
        exact (abC hS hI al).mp (h _ (by omega) ((hf _ (by omega)).mpr (Or.inr ⟨p, q, hq, hp, rfl⟩)))
    · intro h i hi g
      rcases (hf i hi).mp g with ⟨e, rfl⟩ | ⟨p, q, hq, hp, rfl⟩
      · exact (abC hS hI (aw1_lt H.pe hp6 0 (by omega))).mpr (h.1 e)
      · exact (abC hS hI (aw2_lt H.pe hp6 p hp q (by omega))).mpr (h.2 p hp q hq)
  refine fw_of hl0 ⟨by decide +kernel, by decide +kernel, by decide +kernel⟩ rfl ?_
  refine anya_0 (kc := 1) (ks := 6) hJ.2 hl0 _ (fun h1 => mipa_c hl0 hR hI hH hS) (fun h1 y2 M2 e2 q2 => ?_) _ (fun h1 h5 => mica_c hl0 hR hI hH hS) (fun h1 h5 y6 M6 e6 q6 => ?_) (fun y M' => M' = M ∧ y = nI (2 ^ H.wo - 1)) (fun h1 h5 h9 => alwa_c hl0 hI.2.1 hH.wo) (fun _ M10 f M' => M' = M10 ∧ ∀ i, i < 64 → (bL f i = true ↔ ∃ p, p < H.pe ∧ i = aw1 H.pe p)) (fun h1 h5 h9 y10 M10 e10 q10 => ?_) (fun _ _ f M12 y M' => M' = M12 ∧ ((y = nI 1 ∧ ho1 H) ∨ (y = nI 0 ∧ ¬ ho1 H))) (fun h1 h5 h9 y10 M10 e10 q10 y12 M12 e12 q12 => ?_) (fun h1 h5 h9 y10 M10 e10 q10 y12 M12 e12 q12 y14 M14 e14 q14 h16 => ?_) (fun h1 h5 h9 y10 M10 e10 q10 y12 M12 e12 q12 y14 M14 e14 q14 h16 => ?_) (fun y M' => M' = M ∧ y = nI (2 ^ H.wo - 1)) (fun h1 h5 h9 h19 => alwa_c hl0 hI.2.1 hH.wo) (fun _ M20 f M' => M' = M20 ∧ ∀ i, i < 64 → (bL f i = true ↔ (H.pe = 1 ∧ i = aw1 H.pe 0) ∨ ∃ p q, q < p ∧ p < H.pe ∧ i = aw2 H.pe p q)) (fun h1 h5 h9 h19 y20 M20 e20 q20 => ?_) (fun _ _ f M22 y M' => M' = M22 ∧ ((y = nI 1 ∧ ho2 H) ∨ (y = nI 0 ∧ ¬ ho2 H))) (fun h1 h5 h9 h19 y20 M20 e20 q20 y22 M22 e22 q22 => ?_) (fun h1 h5 h9 h19 y20 M20 e20 q20 y22 M22 e22 q22 y24 M24 e24 q24 h26 => ?_) (fun h1 h5 h9 h19 y20 M20 e20 q20 y22 M22 e22 q22 y24 M24 e24 q24 h26 => ?_) (fun h1 h5 h9 h19 => ?_)
  · obtain ⟨rfl, rfl⟩ := q2
    exact go (k := 0) (by decide) h1 (Or.inl ⟨h1, rfl⟩)
  · obtain ⟨rfl, rfl⟩ := q6
    exact go (k := 1) (by decide) h5 (Or.inr (Or.inl ⟨h5, rfl⟩))
  · obtain ⟨rfl, -⟩ := q10
    exact waoa_c hl0 hI hH
  · obtain ⟨rfl, rfl⟩ := q10
    obtain ⟨rfl, q12⟩ := q12
    refine AC.post hl0 (fun r sh' M' hp => ?_) (incG_c hl0 hR (t := 2 ^ H.wo - 1) (w := y12) (by omega))
    obtain ⟨r1, r2, y, r3, r4, r5⟩ := hp
    rw [one q12] at r5
    exact ⟨r1, r2, y, r3, r4, r5⟩
  · obtain ⟨rfl, -⟩ := q10
    obtain ⟨rfl, -⟩ := q12
    obtain ⟨rfl, q14⟩ := q14
    exact go (k := 2) (by decide) h9 (Or.inr (Or.inr (Or.inl ⟨h9, Or.inr ⟨rfl, (q14.resolve_left (fun q => absurd (q.1.symm.trans h16) (by decide))).2⟩⟩)))
  · obtain ⟨rfl, -⟩ := q10
    obtain ⟨rfl, -⟩ := q12
    obtain ⟨rfl, q14⟩ := q14
    exact go (k := 2) (by decide) h9 (Or.inr (Or.inr (Or.inl ⟨h9, Or.inl ⟨rfl, (q14.resolve_right (fun q => h16 q.1)).2⟩⟩)))
  · obtain ⟨rfl, -⟩ := q20
    exact wata_c hl0 hI hH
  · obtain ⟨rfl, rfl⟩ := q20
    obtain ⟨rfl, q22⟩ := q22
    refine AC.post hl0 (fun r sh' M' hp => ?_) (incG_c hl0 hR (t := 2 ^ H.wo - 1) (w := y22) (by omega))
    obtain ⟨r1, r2, y, r3, r4, r5⟩ := hp
    rw [two q22] at r5
    exact ⟨r1, r2, y, r3, r4, r5⟩
  · obtain ⟨rfl, -⟩ := q20
    obtain ⟨rfl, -⟩ := q22
    obtain ⟨rfl, q24⟩ := q24
    exact go (k := 3) (by decide) h19 (Or.inr (Or.inr (Or.inr ⟨h19, Or.inr ⟨rfl, (q24.resolve_left (fun q => absurd (q.1.symm.trans h26) (by decide))).2⟩⟩)))
  · obtain ⟨rfl, -⟩ := q20
    obtain ⟨rfl, -⟩ := q22
    obtain ⟨rfl, q24⟩ := q24
    exact go (k := 3) (by decide) h19 (Or.inr (Or.inr (Or.inr ⟨h19, Or.inl ⟨rfl, (q24.resolve_right (fun q => h26 q.1)).2⟩⟩)))
  · refine ⟨rfl, rfl, Or.inl ⟨pn_no (fun h => ?_), rfl⟩⟩
    rcases in4 h with e | e | e | e
    · exact h1 e
    · exact h5 e
    · exact h9 e
    · exact h19 e
end ANA
section ANB
variable {l : aL} {M : aM} {H : HS} {x : Int32}
theorem waob_c (hl0 : l.1.stackTraces = false) (hI : HI H) (hH : cHo 17 H M) : AC l (pI pg 31) (fcJ M (fun f M' => M' = M ∧ ∀ i, i < 64 → (bL f i = true ↔ ∃ p, p < H.pe ∧ i = aw1 H.pe p))) 0 0 [.ref 17] SHF M := by
  have hp6 := hI.pe
  have p6 := pw_le hp6
  refine fw_of hl0 ⟨by decide +kernel, by decide +kernel, by decide +kernel⟩ rfl ?_
  refine waob_0 hl0 ?_
  have loop : ∀ (d p : Nat) (f : Int64), p + d = H.pe → (∀ i, i < 64 → (bL f i = true ↔ ∃ q, q < p ∧ i = aw1 H.pe q)) → AW l (pI pg 31) (fcJ M (fun f M' => M' = M ∧ ∀ i, i < 64 → (bL f i = true ↔ ∃ p, p < H.pe ∧ i = aw1 H.pe p))) 0 0 4 [(3, .int (nI p)), (1, .long f), (0, .ref 17)] [] SHF M := by
    intro d
    induction d with
    | zero =>
      intro p f hp hf
      have ep : p = H.pe := by omega
      subst ep
      have le : M.1 17 0 ≤ nI H.pe := by rw [hH.pe]; exact Int32.le_refl _
      exact waob_4 hl0 (fun _ => ⟨rfl, rfl, _, rfl, rfl, hf⟩) (fun _ _ => True) (fun h => absurd le h) (fun h => absurd le h)
    | succ d ih =>
      intro p f hp hf
      have ng : ¬ M.1 17 0 ≤ nI p := by
        rw [hH.pe, nle (by omega) (by omega)]
        omega
      refine waob_4 hl0 (fun h => absurd h ng) _ (fun _ => alpb_c hl0 hI hH) (fun _ y3 M3 e3 q3 => ?_)
      obtain ⟨rfl, rfl⟩ := q3
      rw [aw1_c H.pe hp6 p (by omega), show nI p + Int32.ofInt 1 = nI (p + 1) from nI_1 p]
      have al := aw1_lt H.pe hp6 p (by omega)
      refine ih (p + 1) _ (by omega) (fun i hi => ?_)
      rw [bL_or, Bool.or_eq_true, hf i hi, show bL ((Int64.ofNat (1 : Fin 2)) <<< ((nI (aw1 H.pe p)).toInt64 &&& 63)) i = decide (i = aw1 H.pe p) from bL_one (by omega), decide_eq_true_eq]
      constructor
      · rintro (⟨q, q1, q2⟩ | e)
        · exact ⟨q, by omega, q2⟩
        · exact ⟨p, by omega, e⟩
      · rintro ⟨q, q1, q2⟩
        by_cases e : q = p
        · subst e
          exact Or.inr q2
        · exact Or.inl ⟨q, by omega, q2⟩
  refine loop H.pe 0 _ (by omega) (fun i hi => ?_)
  rw [show bL (Int64.ofNat (0 : Fin 2)) i = false from bL_0]
  exact ⟨fun h => (by cases h), fun ⟨q, h, _⟩ => absurd h (Nat.not_lt_zero _)⟩
theorem watb_c (hl0 : l.1.stackTraces = false) (hI : HI H) (hH : cHo 17 H M) : AC l (pI pg 127) (fcJ M (fun f M' => M' = M ∧ ∀ i, i < 64 → (bL f i = true ↔ (H.pe = 1 ∧ i = aw1 H.pe 0) ∨ ∃ p q, q < p ∧ p < H.pe ∧ i = aw2 H.pe p q))) 0 0 [.ref 17] SHF M := by
  have hp6 := hI.pe
  have p6 := pw_le hp6
  have e1 : M.1 17 0 = Int32.ofInt 1 ↔ H.pe = 1 := by
    rw [hH.pe, z_1, nI_eq (by omega) (by decide)]
  refine fw_of hl0 ⟨by decide +kernel, by decide +kernel, by decide +kernel⟩ rfl ?_
  refine watb_0 hl0 (fun h1 => ?_) _ (fun h1 => waob_c hl0 hI hH) (fun h1 y3 M3 e3 q3 => ?_)
  · have n1 : ¬ H.pe = 1 := fun g => h1 (e1.mpr g)
    have outer : ∀ (d p : Nat) (f : Int64), p + d = H.pe → (∀ i, i < 64 → (bL f i = true ↔ ∃ a b, a < b ∧ b < H.pe ∧ a < p ∧ i = aw2 H.pe a b)) → AW l (pI pg 127) (fcJ M (fun f M' => M' = M ∧ ∀ i, i < 64 → (bL f i = true ↔ (H.pe = 1 ∧ i = aw1 H.pe 0) ∨ ∃ p q, q < p ∧ p < H.pe ∧ i = aw2 H.pe p q))) 0 0 17 [(3, .int (nI p)), (1, .long f), (0, .ref 17)] [] SHF M := by
      intro d
      induction d with
      | zero =>
        intro p f hp hf
        have ep : p = H.pe := by omega
        subst ep
        have le : M.1 17 0 ≤ nI H.pe := by rw [hH.pe]; exact Int32.le_refl _
        refine watb_17 hl0 (fun _ => ⟨rfl, rfl, _, rfl, rfl, fun i hi => (hf i hi).trans ⟨?_, ?_⟩⟩) (fun h => absurd le h)
        · rintro ⟨a, b, h1, h2, -, h3⟩
          exact Or.inr ⟨b, a, h1, h2, h3.trans aw2_sy⟩
        · rintro (⟨h, -⟩ | ⟨b, a, h1, h2, h3⟩)
          · exact absurd h n1
          · exact ⟨a, b, h1, h2, by omega, h3.trans aw2_sy⟩
      | succ d ih =>
        intro p f hp hf
        have ng : ¬ M.1 17 0 ≤ nI p := by
          rw [hH.pe, nle (by omega) (by omega)]
          omega
        refine watb_17 hl0 (fun h => absurd h ng) (fun _ => ?_)
        rw [show nI p + Int32.ofInt 1 = nI (p + 1) from nI_1 p]
        have inner : ∀ (d2 q : Nat) (f : Int64), q + d2 = H.pe → p < q → (∀ i, i < 64 → (bL f i = true ↔ ∃ a b, a < b ∧ b < H.pe ∧ (a < p ∨ (a = p ∧ b < q)) ∧ i = aw2 H.pe a b)) → AW l (pI pg 127) (fcJ M (fun f M' => M' = M ∧ ∀ i, i < 64 → (bL f i = true ↔ (H.pe = 1 ∧ i = aw1 H.pe 0) ∨ ∃ p q, q < p ∧ p < H.pe ∧ i = aw2 H.pe p q))) 0 0 30 [(4, .int (nI q)), (3, .int (nI p)), (1, .long f), (0, .ref 17)] [] SHF M := by
          intro d2
          induction d2 with
          | zero =>
            intro q f hq hpq hf
            have eq : q = H.pe := by omega
            subst eq
            have le : M.1 17 0 ≤ nI H.pe := by rw [hH.pe]; exact Int32.le_refl _
            refine watb_30 hl0 (fun _ => ?_) (fun _ _ => True) (fun h => absurd le h) (fun h => absurd le h)
            rw [show nI p + Int32.ofInt 1 = nI (p + 1) from nI_1 p]
            refine ih (p + 1) f (by omega) (fun i hi => (hf i hi).trans ⟨?_, ?_⟩)
            · rintro ⟨a, b, h1, h2, h3, h4⟩
              exact ⟨a, b, h1, h2, by omega, h4⟩
            · rintro ⟨a, b, h1, h2, h3, h4⟩
              exact ⟨a, b, h1, h2, by omega, h4⟩
          | succ d2 ih2 =>
            intro q f hq hpq hf
            have ng2 : ¬ M.1 17 0 ≤ nI q := by
              rw [hH.pe, nle (by omega) (by omega)]
              omega
            refine watb_30 hl0 (fun h => absurd h ng2) _ (fun _ => alpb_c hl0 hI hH) (fun _ y3 M3 e3 q3 => ?_)
            obtain ⟨rfl, rfl⟩ := q3
            rw [aw2_c H.pe hp6 p (by omega) q (by omega), show nI q + Int32.ofInt 1 = nI (q + 1) from nI_1 q]
            have al := aw2_lt H.pe hp6 p (by omega) q (by omega)
            refine ih2 (q + 1) _ (by omega) (by omega) (fun i hi => ?_)
            rw [bL_or, Bool.or_eq_true, hf i hi, show bL ((Int64.ofNat (1 : Fin 2)) <<< ((nI (aw2 H.pe p q)).toInt64 &&& 63)) i = decide (i = aw2 H.pe p q) from bL_one (by omega), decide_eq_true_eq]
            constructor
            · rintro (⟨a, b, h1, h2, h3, h4⟩ | e)
              · exact ⟨a, b, h1, h2, by omega, h4⟩
              · exact ⟨p, q, hpq, by omega, by omega, e⟩
            · rintro ⟨a, b, h1, h2, h3, h4⟩
              by_cases e : a = p ∧ b = q
              · obtain ⟨rfl, rfl⟩ := e
                exact Or.inr h4
              · exact Or.inl ⟨a, b, h1, h2, by omega, h4⟩
        refine inner (H.pe - (p + 1)) (p + 1) f (by omega) (by omega) (fun i hi => (hf i hi).trans ⟨?_, ?_⟩)
        · rintro ⟨a, b, h1, h2, h3, h4⟩
          exact ⟨a, b, h1, h2, by omega, h4⟩
        · rintro ⟨a, b, h1, h2, h3, h4⟩
          exact ⟨a, b, h1, h2, by omega, h4⟩
    refine outer H.pe 0 _ (by omega) (fun i hi => ?_)
    rw [show bL (Int64.ofNat (0 : Fin 2)) i = false from bL_0]
    exact ⟨fun h => (by cases h), fun ⟨a, b, _, _, h, _⟩ => absurd h (Nat.not_lt_zero _)⟩
  · obtain ⟨rfl, q3⟩ := q3
    have n1 := e1.mp h1
    refine ⟨rfl, rfl, _, rfl, rfl, fun i hi => (q3 i hi).trans ⟨?_, ?_⟩⟩
    · rintro ⟨p, h1, h2⟩
      have ep : p = 0 := by omega
      subst ep
      exact Or.inl ⟨n1, h2⟩
    · rintro (⟨-, h2⟩ | ⟨p, q, h1, h2, h3⟩)
      · exact ⟨0, by omega, h2⟩
      · omega
theorem mipb_c (hl0 : l.1.stackTraces = false) (hR : ∀ e ∈ RL, M.2.2 e.1 e.2.1 = e.2.2) (hI : HI H) (hH : cHo 17 H M) (hS : SL H M) : AC l (pI pg 125) (fcI M (fun y M' => M' = M ∧ y = nI (mssV H H.pe))) 0 0 [.ref 33, .ref 17] SHF M := by
  have hp6 := hI.pe
  have p6 := pw_le hp6
  refine fw_of hl0 ⟨by decide +kernel, by decide +kernel, by decide +kernel⟩ rfl ?_
  refine mipb_0 hl0 ?_
  have loop : ∀ (d p : Nat), p + d = H.pe → AW l (pI pg 125) (fcI M (fun y M' => M' = M ∧ y = nI (mssV H H.pe))) 0 0 4 [(3, .int (nI p)), (2, .int (nI (mssV H p))), (1, .ref 17), (0, .ref 33)] [] SHF M := by
    intro d
    induction d with
    | zero =>
      intro p hp
      have ep : p = H.pe := by omega
      subst ep
      have le : M.1 17 0 ≤ nI H.pe := by rw [hH.pe]; exact Int32.le_refl _
      exact mipb_4 hl0 (fun _ => ⟨rfl, rfl, _, rfl, rfl, rfl⟩) (fun _ _ => True) (fun h => absurd le h) (fun _ _ _ _ => True) (fun h => absurd le h) (fun _ _ _ _ _ _ => True) (fun h => absurd le h) (fun h => absurd le h) (fun h => absurd le h)
    | succ d ih =>
      intro p hp
      have ng : ¬ M.1 17 0 ≤ nI p := by
        rw [hH.pe, nle (by omega) (by omega)]
        omega
      have al := aw1_lt H.pe hp6 p (by omega)
      refine mipb_4 hl0 (fun h => absurd h ng) (fun y M' => M' = M ∧ y = nI (2 ^ H.wo - 1)) (fun _ => alwb_c hl0 hI.2.1 hH.wo) (fun _ M3 y M' => nI (2 ^ H.pe - 1) = y ∧ M3 = M') (fun _ y3 M3 e3 q3 => ?_) (fun _ _ _ M5 y M' => M' = M5 ∧ ((y = nI 1 ∧ canL H (aw1 H.pe p)) ∨ (y = nI 0 ∧ ¬ canL H (aw1 H.pe p)))) (fun _ y3 M3 e3 q3 y5 M5 e5 q5 => ?_) (fun _ y3 M3 e3 q3 y5 M5 e5 q5 y7 M7 e7 q7 h9 => ?_) (fun _ y3 M3 e3 q3 y5 M5 e5 q5 y7 M7 e7 q7 h9 => ?_)
      · obtain ⟨rfl, -⟩ := q3
        exact alpb_c hl0 hI hH
      · obtain ⟨rfl, rfl⟩ := q3
        obtain ⟨rfl, rfl⟩ := q5
        rw [aw1_c H.pe hp6 p (by omega)]
        exact inc1_c hl0 hR hI hS al
      · obtain ⟨rfl, -⟩ := q3
        obtain ⟨-, rfl⟩ := q5
        obtain ⟨rfl, q7⟩ := q7
        have cy : canL H (aw1 H.pe p) := (q7.resolve_right (fun q => h9 q.1)).2
        rw [show nI p + Int32.ofInt 1 = nI (p + 1) from nI_1 p, ← mssV_y cy]
        exact ih (p + 1) (by omega)
      · obtain ⟨rfl, -⟩ := q3
        obtain ⟨-, rfl⟩ := q5
        obtain ⟨rfl, q7⟩ := q7
        have cn : ¬ canL H (aw1 H.pe p) := (q7.resolve_left (fun q => absurd (q.1.symm.trans h9) (by decide))).2
        have ml := mssV_lt (H := H) p
        have pl : 2 ^ p ≤ 2 ^ 6 := Nat.pow_le_pow_right (by decide) (by omega)
        rw [show nI p + Int32.ofInt 1 = nI (p + 1) from nI_1 p, shW (show p ≤ 8 by omega), nI_orN (by omega) (by omega), mssV_n cn]
        exact ih (p + 1) (by omega)
  exact loop H.pe 0 (by omega)
theorem micb_c (hl0 : l.1.stackTraces = false) (hR : ∀ e ∈ RL, M.2.2 e.1 e.2.1 = e.2.2) (hI : HI H) (hH : cHo 17 H M) (hS : SL H M) : AC l (pI pg 126) (fcI M (fun y M' => M' = M ∧ y = nI (coV H H.pe))) 0 0 [.ref 33, .ref 17] SHF M := by
  have hp6 := hI.pe
  have p6 := pw_le hp6
  refine fw_of hl0 ⟨by decide +kernel, by decide +kernel, by decide +kernel⟩ rfl ?_
  refine micb_0 hl0 ?_
  have ex := sF_ex (c := coC H) coC_sy H.pe
  have outer : ∀ (d p : Nat), p + d = H.pe → AW l (pI pg 126) (fcI M (fun y M' => M' = M ∧ y = nI (coV H H.pe))) 0 0 4 [(3, .int (nI p)), (2, .int (nI (smF (fun a => smF (fun i => coC H a (a + 1 + i)) (H.pe - (a + 1))) p))), (1, .ref 17), (0, .ref 33)] [] SHF M := by
    intro d
    induction d with
    | zero =>
      intro p hp
      have ep : p = H.pe := by omega
      subst ep
      have le : M.1 17 0 ≤ nI H.pe := by rw [hH.pe]; exact Int32.le_refl _
      exact micb_4 hl0 (fun _ => ⟨rfl, rfl, _, rfl, rfl, congrArg nI ex⟩) (fun h => absurd le h)
    | succ d ih =>
      intro p hp
      have ng : ¬ M.1 17 0 ≤ nI p := by
        rw [hH.pe, nle (by omega) (by omega)]
        omega
      refine micb_4 hl0 (fun h => absurd h ng) (fun _ => ?_)
      rw [show nI p + Int32.ofInt 1 = nI (p + 1 + 0) from nI_1 p]
      have inner : ∀ (d2 j : Nat), p + 1 + j + d2 = H.pe → AW l (pI pg 126) (fcI M (fun y M' => M' = M ∧ y = nI (coV H H.pe))) 0 0 17 [(4, .int (nI (p + 1 + j))), (3, .int (nI p)), (2, .int (nI (smF (fun a => smF (fun i => coC H a (a + 1 + i)) (H.pe - (a + 1))) p + smF (fun i => coC H p (p + 1 + i)) j))), (1, .ref 17), (0, .ref 33)] [] SHF M := by
        intro d2
        induction d2 with
        | zero =>
          intro j hj
          have ej : j = H.pe - (p + 1) := by omega
          have le : M.1 17 0 ≤ nI (p + 1 + j) := by
            rw [hH.pe, nle (by omega) (by omega)]
            omega
          refine micb_17 hl0 (fun _ => ?_) (fun _ _ => True) (fun h => absurd le h) (fun _ _ _ _ => True) (fun h => absurd le h) (fun _ _ _ _ _ _ => True) (fun h => absurd le h) (fun h => absurd le h) (fun h => absurd le h)
          rw [show nI p + Int32.ofInt 1 = nI (p + 1) from nI_1 p]
          have k := ih (p + 1) (by omega)
          rw [ej]
          exact k
        | succ d2 ih2 =>
          intro j hj
          have ng2 : ¬ M.1 17 0 ≤ nI (p + 1 + j) := by
            rw [hH.pe, nle (by omega) (by omega)]
            omega
          have al := aw2_lt H.pe hp6 p (by omega) (p + 1 + j) (by omega)
          refine micb_17 hl0 (fun h => absurd h ng2) (fun y M' => nI (2 ^ H.pe - 1) = y ∧ M = M') (fun _ => alpb_c hl0 hI hH) (fun _ M3 y M' => M' = M3 ∧ y = nI (2 ^ H.wo - 1)) (fun _ y3 M3 e3 q3 => ?_) (fun _ _ _ M5 y M' => M' = M5 ∧ ((y = nI 1 ∧ canL H (aw2 H.pe p (p + 1 + j))) ∨ (y = nI 0 ∧ ¬ canL H (aw2 H.pe p (p + 1 + j))))) (fun _ y3 M3 e3 q3 y5 M5 e5 q5 => ?_) (fun _ y3 M3 e3 q3 y5 M5 e5 q5 y7 M7 e7 q7 h9 => ?_) (fun _ y3 M3 e3 q3 y5 M5 e5 q5 y7 M7 e7 q7 h9 => ?_)
          · obtain ⟨-, rfl⟩ := q3
            exact alwb_c hl0 hI.2.1 hH.wo
          · obtain ⟨rfl, rfl⟩ := q3
            obtain ⟨rfl, rfl⟩ := q5
            rw [aw2_c H.pe hp6 p (by omega) (p + 1 + j) (by omega)]
            exact inc1_c hl0 hR hI hS al
          · obtain ⟨-, rfl⟩ := q3
            obtain ⟨rfl, -⟩ := q5
            obtain ⟨rfl, q7⟩ := q7
            have cy := (q7.resolve_right (fun q => h9 q.1)).2
            have k := ih2 (j + 1) (by omega)
            rw [show smF (fun i => coC H p (p + 1 + i)) (j + 1) = smF (fun i => coC H p (p + 1 + i)) j + coC H p (p + 1 + j) from rfl, show coC H p (p + 1 + j) = 0 from nc_y cy, Nat.add_zero] at k
            rw [show nI (p + 1 + j) + Int32.ofInt 1 = nI (p + 1 + j + 1) from nI_1 _]
            exact k
          · obtain ⟨-, rfl⟩ := q3
            obtain ⟨rfl, -⟩ := q5
            obtain ⟨rfl, q7⟩ := q7
            have cn := (q7.resolve_left (fun q => absurd (q.1.symm.trans h9) (by decide))).2
            have k := ih2 (j + 1) (by omega)
            rw [show smF (fun i => coC H p (p + 1 + i)) (j + 1) = smF (fun i => coC H p (p + 1 + i)) j + coC H p (p + 1 + j) from rfl, show coC H p (p + 1 + j) = 1 from nc_n cn, ← Nat.add_assoc] at k
            rw [show nI (p + 1 + j) + Int32.ofInt 1 = nI (p + 1 + j + 1) from nI_1 _, (show ∀ m, nI m + Int32.ofInt 1 = nI (m + 1) from fun m => nI_1 m)]
            exact k
      exact inner (H.pe - (p + 1)) 0 (by omega)
  exact outer H.pe 0 (by omega)
theorem anyb_c (hl0 : l.1.stackTraces = false) (hJ : JR RRS M) (hI : HI H) (hH : cHo 17 H M) (hS : SL H M) : AC l (pI pg 124) (tcO "java/util/NoSuchElementException" M (piN 4 (anP H x) x)) 2 12 [.ref 0, .int x] SHF M := by
  have hp6 := hI.pe
  have P8 := p2_8 hI.2.1
  have wpos := Nat.two_pow_pos H.wo
  have hR : ∀ e ∈ RL, M.2.2 e.1 e.2.1 = e.2.2 := fun e he => hJ.2 e (rl_RRS e he)
  have go : ∀ {k : Nat} {z : Int32}, k < 4 → x = Int32.ofInt k → anP H x z → tcO "java/util/NoSuchElementException" M (piN 4 (anP H x) x) (.inl (some (.int z))) SHF M := fun {k z} hk e hz => ⟨rfl, rfl, Or.inr ⟨z, pn_is (by rw [e]; exact in4_of hk) hz anP_u, rfl⟩⟩
  have one : ∀ {f : Int64}, (∀ i, i < 64 → (bL f i = true ↔ ∃ p, p < H.pe ∧ i = aw1 H.pe p)) → ((∀ i, i < 64 → bL f i = true → bL (lgV M 34 (2 ^ H.wo - 1)) i = true) ↔ ho1 H) := fun {f} hf => by
    constructor
    · intro h p hp
      have al := aw1_lt H.pe hp6 p hp
      have := pw_le hp6
      exact (abC hS hI al).mp (h _ (by omega) ((hf _ (by omega)).mpr ⟨p, hp, rfl⟩))
    · intro h i hi g
      obtain ⟨p, hp, rfl⟩ := (hf i hi).mp g
      exact (abC hS hI (aw1_lt H.pe hp6 p hp)).mpr (h p hp)
  have two : ∀ {f : Int64}, (∀ i, i < 64 → (bL f i = true ↔ (H.pe = 1 ∧ i = aw1 H.pe 0) ∨ ∃ p q, q < p ∧ p < H.pe ∧ i = aw2 H.pe p q)) → ((∀ i, i < 64 → bL f i = true → bL (lgV M 34 (2 ^ H.wo - 1)) i = true) ↔ ho2 H) := fun {f} hf => by
    have := pw_le hp6
    constructor
    · intro h
      refine ⟨fun e => ?_, fun p hp q hq => ?_⟩
      · have al := aw1_lt H.pe hp6 0 (by omega)
        exact (abC hS hI al).mp (h _ (by omega) ((hf _ (by omega)).mpr (Or.inl ⟨e, rfl⟩)))
      · have al := aw2_lt H.pe hp6 p hp q (by omega)
        exact (abC hS hI al).mp (h _ (by omega) ((hf _ (by omega)).mpr (Or.inr ⟨p, q, hq, hp, rfl⟩)))
    · intro h i hi g
      rcases (hf i hi).mp g with ⟨e, rfl⟩ | ⟨p, q, hq, hp, rfl⟩
      · exact (abC hS hI (aw1_lt H.pe hp6 0 (by omega))).mpr (h.1 e)
      · exact (abC hS hI (aw2_lt H.pe hp6 p hp q (by omega))).mpr (h.2 p hp q hq)
  refine fw_of hl0 ⟨by decide +kernel, by decide +kernel, by decide +kernel⟩ rfl ?_
  refine anyb_0 (kc := 1) (ks := 6) hJ.2 hl0 _ (fun h1 => mipb_c hl0 hR hI hH hS) (fun h1 y2 M2 e2 q2 => ?_) _ (fun h1 h5 => micb_c hl0 hR hI hH hS) (fun h1 h5 y6 M6 e6 q6 => ?_) (fun y M' => M' = M ∧ y = nI (2 ^ H.wo - 1)) (fun h1 h5 h9 => alwb_c hl0 hI.2.1 hH.wo) (fun _ M10 f M' => M' = M10 ∧ ∀ i, i < 64 → (bL f i = true ↔ ∃ p, p < H.pe ∧ i = aw1 H.pe p)) (fun h1 h5 h9 y10 M10 e10 q10 => ?_) (fun _ _ f M12 y M' => M' = M12 ∧ ((y = nI 1 ∧ ho1 H) ∨ (y = nI 0 ∧ ¬ ho1 H))) (fun h1 h5 h9 y10 M10 e10 q10 y12 M12 e12 q12 => ?_) (fun h1 h5 h9 y10 M10 e10 q10 y12 M12 e12 q12 y14 M14 e14 q14 h16 => ?_) (fun h1 h5 h9 y10 M10 e10 q10 y12 M12 e12 q12 y14 M14 e14 q14 h16 => ?_) (fun y M' => M' = M ∧ y = nI (2 ^ H.wo - 1)) (fun h1 h5 h9 h19 => alwb_c hl0 hI.2.1 hH.wo) (fun _ M20 f M' => M' = M20 ∧ ∀ i, i < 64 → (bL f i = true ↔ (H.pe = 1 ∧ i = aw1 H.pe 0) ∨ ∃ p q, q < p ∧ p < H.pe ∧ i = aw2 H.pe p q)) (fun h1 h5 h9 h19 y20 M20 e20 q20 => ?_) (fun _ _ f M22 y M' => M' = M22 ∧ ((y = nI 1 ∧ ho2 H) ∨ (y = nI 0 ∧ ¬ ho2 H))) (fun h1 h5 h9 h19 y20 M20 e20 q20 y22 M22 e22 q22 => ?_) (fun h1 h5 h9 h19 y20 M20 e20 q20 y22 M22 e22 q22 y24 M24 e24 q24 h26 => ?_) (fun h1 h5 h9 h19 y20 M20 e20 q20 y22 M22 e22 q22 y24 M24 e24 q24 h26 => ?_) (fun h1 h5 h9 h19 => ?_)
  · obtain ⟨rfl, rfl⟩ := q2
    exact go (k := 0) (by decide) h1 (Or.inl ⟨h1, rfl⟩)
  · obtain ⟨rfl, rfl⟩ := q6
    exact go (k := 1) (by decide) h5 (Or.inr (Or.inl ⟨h5, rfl⟩))
  · obtain ⟨rfl, -⟩ := q10
    exact waob_c hl0 hI hH
  · obtain ⟨rfl, rfl⟩ := q10
    obtain ⟨rfl, q12⟩ := q12
    refine AC.post hl0 (fun r sh' M' hp => ?_) (incG_c hl0 hR (t := 2 ^ H.wo - 1) (w := y12) (by omega))
    obtain ⟨r1, r2, y, r3, r4, r5⟩ := hp
    rw [one q12] at r5
    exact ⟨r1, r2, y, r3, r4, r5⟩
  · obtain ⟨rfl, -⟩ := q10
    obtain ⟨rfl, -⟩ := q12
    obtain ⟨rfl, q14⟩ := q14
    exact go (k := 2) (by decide) h9 (Or.inr (Or.inr (Or.inl ⟨h9, Or.inr ⟨rfl, (q14.resolve_left (fun q => absurd (q.1.symm.trans h16) (by decide))).2⟩⟩)))
  · obtain ⟨rfl, -⟩ := q10
    obtain ⟨rfl, -⟩ := q12
    obtain ⟨rfl, q14⟩ := q14
    exact go (k := 2) (by decide) h9 (Or.inr (Or.inr (Or.inl ⟨h9, Or.inl ⟨rfl, (q14.resolve_right (fun q => h16 q.1)).2⟩⟩)))
  · obtain ⟨rfl, -⟩ := q20
    exact watb_c hl0 hI hH
  · obtain ⟨rfl, rfl⟩ := q20
    obtain ⟨rfl, q22⟩ := q22
    refine AC.post hl0 (fun r sh' M' hp => ?_) (incG_c hl0 hR (t := 2 ^ H.wo - 1) (w := y22) (by omega))
    obtain ⟨r1, r2, y, r3, r4, r5⟩ := hp
    rw [two q22] at r5
    exact ⟨r1, r2, y, r3, r4, r5⟩
  · obtain ⟨rfl, -⟩ := q20
    obtain ⟨rfl, -⟩ := q22
    obtain ⟨rfl, q24⟩ := q24
    exact go (k := 3) (by decide) h19 (Or.inr (Or.inr (Or.inr ⟨h19, Or.inr ⟨rfl, (q24.resolve_left (fun q => absurd (q.1.symm.trans h26) (by decide))).2⟩⟩)))
  · obtain ⟨rfl, -⟩ := q20
    obtain ⟨rfl, -⟩ := q22
    obtain ⟨rfl, q24⟩ := q24
    exact go (k := 3) (by decide) h19 (Or.inr (Or.inr (Or.inr ⟨h19, Or.inl ⟨rfl, (q24.resolve_right (fun q => h26 q.1)).2⟩⟩)))
  · refine ⟨rfl, rfl, Or.inl ⟨pn_no (fun h => ?_), rfl⟩⟩
    rcases in4 h with e | e | e | e
    · exact h1 e
    · exact h5 e
    · exact h9 e
    · exact h19 e
end ANB
/-! of the reference -/
def bsR (H : HS) (R : sR) (M4 : aM) : Prop := JR R M4 ∧ lsAll H 0 H.pe M4 ∧ M4.1 58 1 = nI H.pe ∧ M4.1 58 2 = nI H.wo
def frC (M4 Mc : aM) : Prop := Mc.2.2 = M4.2.2 ∧ ∀ a k, a ≠ 76 → a ≠ 77 → a ≠ 78 → Mc.1 a k = M4.1 a k
section ANR
variable {l : aL} {M M4 Mc : aM} {H : HS} {R : sR} {x : Int32}
theorem can_x (hl0 : l.1.stackTraces = false) (hO : okR R) (hI : HI H) (hB : bsR H R M4) (hF : frC M4 Mc) {lf : Nat} (hl : lf < 2 ^ H.pe) : AC l (pI pg 209) (fcI Mc (fun y M' => frC M4 M' ∧ ((y = 1 ∧ canL H lf) ∨ (y = 0 ∧ ¬ canL H lf)))) 0 0 [.ref 58, .int (nI lf)] SHF Mc := by
  have w8 := hI.2.1
  have hp6 := hI.pe
  have p6 := pw_le hp6
  have wpos := Nat.two_pow_pos H.wo
  obtain ⟨g1, g2⟩ := mdl_of (left := lf) hO hB.1 (by omega)
  have eN : (M4.1 58 1).toInt.toNat = H.pe := by rw [hB.2.2.1, nI_toInt (by omega)]; rfl
  have eW : dW (mkD M4 lf) = H.wo := by
    show (M4.1 58 2).toInt.toNat = H.wo
    rw [hB.2.2.2, nI_toInt (by omega)]
    rfl
  rw [eN] at g1 g2
  have hm := g1.re hF.1 (fun a k h1 h2 h3 _ _ => hF.2 a k h1 h2 h3)
  refine AC.post hl0 (fun r sh' M' hp => ?_) (show AC l (pI pg 209) (fcI Mc (Q208 H.pe (mkD M4 lf) Mc)) 0 0 [.ref 58, .int (nI lf)] SHF Mc from c208 hl0 hm g2)
  obtain ⟨r1, r2, y, r3, q6⟩ := hp
  have hb := Best_rea (H := H) (cd := fun p => cdT H 0 p H.te) (lf := lf) eW (fun w hw => by
    have := q6.1 w (by omega)
    show (M'.1 76 w).toInt = -1
    rw [this]
    rfl) rfl (lsAll_hL w8 hB.2.1) q6.2.2.2.1 (show 2 ^ H.wo - 1 < 2 ^ H.wo by omega)
  rw [cd_fun] at hb
  have q := q6.2.2.2.2
  rw [eW] at q
  refine ⟨r1, r2, y, r3, ⟨r2.trans hF.1, fun a k h1 h2 h3 => (q6.2.2.1 a k h1 h2 h3).trans (hF.2 a k h1 h2 h3)⟩, ?_⟩
  rcases q with ⟨y1, y2⟩ | ⟨y0, y2⟩
  · exact Or.inl ⟨y1, hb.mp y2⟩
  · exact Or.inr ⟨y0, fun h => hb.mpr h y2⟩
theorem frC_0 : frC M4 M4 := ⟨rfl, fun _ _ _ _ _ => rfl⟩
theorem frC_R (hO : okR R) (hB : bsR H R M4) (hF : frC M4 Mc) : ∀ e ∈ RM, Mc.2.2 e.1 e.2.1 = e.2.2 := fun e he => by
  rw [hF.1]
  exact rgR_ok hB.1.2 (hO.1 e he)
theorem frC_1 (hB : bsR H R M4) (hF : frC M4 Mc) : Mc.1 58 1 = nI H.pe := (hF.2 58 1 (by decide) (by decide) (by decide)).trans hB.2.2.1
theorem hol1_c (hl0 : l.1.stackTraces = false) (hO : okR R) (hI : HI H) (hB : bsR H R M4) : AC l (pI pg 223) (fcI M4 (fun y M' => frC M4 M' ∧ ((y = nI 1 ∧ ho1 H) ∨ (y = nI 0 ∧ ¬ ho1 H)))) 0 0 [.ref 58, .int (Int32.ofInt 0)] SHF M4 := by
  have hp6 := hI.pe
  have z0 : (Int32.ofInt 0 : Int32) = 0 := by decide
  refine fw_of hl0 ⟨by decide +kernel, by decide +kernel, by decide +kernel⟩ rfl ?_
  refine hol_0 (frC_R hO hB frC_0) hl0 ?_
  rw [hB.2.2.1, fullW (by omega)]
  have loop : ∀ (d p : Nat) (Mc : aM), p + d = H.pe → frC M4 Mc → (∀ a, a < p → canL H (aw1 H.pe a)) → AW l (pI pg 223) (fcI M4 (fun y M' => frC M4 M' ∧ ((y = nI 1 ∧ ho1 H) ∨ (y = nI 0 ∧ ¬ ho1 H)))) 0 0 11 [(3, .int (nI p)), (2, .int (nI (2 ^ H.pe - 1))), (1, .int (Int32.ofInt 0)), (0, .ref 58)] [] SHF Mc := by
    intro d
    induction d with
    | zero =>
      intro p Mc hp hF ha
      have ep : p = H.pe := by omega
      subst ep
      have le : Mc.1 58 1 ≤ nI H.pe := by rw [frC_1 hB hF]; exact Int32.le_refl _
      exact hol_11 (frC_R hO hB hF) hl0 (fun _ => ⟨rfl, hF.1, _, rfl, hF, Or.inl ⟨rfl, ha⟩⟩) (fun _ _ => True) (fun h => absurd le h) (fun h => absurd le h) (fun h => absurd le h) (fun h => absurd le h) (fun _ _ => True) (fun h => absurd le h) (fun h => absurd le h) (fun h => absurd le h)
    | succ d ih =>
      intro p Mc hp hF ha
      have ng : ¬ Mc.1 58 1 ≤ nI p := by
        rw [frC_1 hB hF, nle (by omega) (by omega)]
        omega
      refine hol_11 (frC_R hO hB hF) hl0 (fun h => absurd h ng) (fun y M' => frC M4 M' ∧ ((y = 1 ∧ canL H (aw1 H.pe p)) ∨ (y = 0 ∧ ¬ canL H (aw1 H.pe p)))) (fun _ _ => ?_) (fun _ _ y4 M6 e4 q4 h6 => ?_) (fun _ _ y4 M6 e4 q4 h6 => ?_) (fun _ h3 => absurd z0 h3) (fun _ _ => True) (fun _ h3 => absurd z0 h3) (fun _ h3 => absurd z0 h3) (fun _ h3 => absurd z0 h3)
      · rw [aw1_m H.pe hp6 p (by omega)]
        exact can_x hl0 hO hI hB hF (aw1_lt H.pe hp6 p (by omega))
      · have cy := (q4.2.resolve_right (fun q => h6 q.1)).2
        refine hol_50 (q := 0) (frC_R hO hB q4.1) hl0 (fun _ => ?_) (fun h => absurd z0 h) (fun _ _ => True) (fun h => absurd z0 h) (fun h => absurd z0 h) (fun h => absurd z0 h)
        rw [show nI p + Int32.ofInt 1 = nI (p + 1) from nI_1 p]
        refine ih (p + 1) M6 (by omega) q4.1 (fun a h => ?_)
        by_cases e : a = p
        · subst e
          exact cy
        · exact ha a (by omega)
      · have cn := (q4.2.resolve_left (fun q => absurd (q.1.symm.trans h6) (by decide))).2
        exact ⟨rfl, q4.1.1, _, rfl, q4.1, Or.inr ⟨rfl, fun h => cn (h p (by omega))⟩⟩
  exact loop H.pe 0 M4 (by omega) frC_0 (fun a h => absurd h (Nat.not_lt_zero _))
theorem hol2_c (hl0 : l.1.stackTraces = false) (hO : okR R) (hI : HI H) (hB : bsR H R M4) : AC l (pI pg 223) (fcI M4 (fun y M' => frC M4 M' ∧ ((y = nI 1 ∧ ho2 H) ∨ (y = nI 0 ∧ ¬ ho2 H)))) 0 0 [.ref 58, .int (Int32.ofInt 1)] SHF M4 := by
  have hp6 := hI.pe
  have z1 : ¬ (Int32.ofInt 1 : Int32) = 0 := by decide
  refine fw_of hl0 ⟨by decide +kernel, by decide +kernel, by decide +kernel⟩ rfl ?_
  refine hol_0 (frC_R hO hB frC_0) hl0 ?_
  rw [hB.2.2.1, fullW (by omega)]
  have outer : ∀ (d p : Nat) (Mc : aM), p + d = H.pe → frC M4 Mc → (H.pe = 1 → ∀ a, a < p → canL H (aw1 H.pe a)) → (∀ a, a < p → ∀ b, b < a → canL H (aw2 H.pe a b)) → AW l (pI pg 223) (fcI M4 (fun y M' => frC M4 M' ∧ ((y = nI 1 ∧ ho2 H) ∨ (y = nI 0 ∧ ¬ ho2 H)))) 0 0 11 [(3, .int (nI p)), (2, .int (nI (2 ^ H.pe - 1))), (1, .int (Int32.ofInt 1)), (0, .ref 58)] [] SHF Mc := by
    intro d
    induction d with
    | zero =>
      intro p Mc hp hF ha hb
      have ep : p = H.pe := by omega
      subst ep
      have le : Mc.1 58 1 ≤ nI H.pe := by rw [frC_1 hB hF]; exact Int32.le_refl _
      exact hol_11 (frC_R hO hB hF) hl0 (fun _ => ⟨rfl, hF.1, _, rfl, hF, Or.inl ⟨rfl, fun e => ha e 0 (by omega), hb⟩⟩) (fun _ _ => True) (fun h => absurd le h) (fun h => absurd le h) (fun h => absurd le h) (fun h => absurd le h) (fun _ _ => True) (fun h => absurd le h) (fun h => absurd le h) (fun h => absurd le h)
    | succ d ih =>
      intro p Mc hp hF ha hb
      have ng : ¬ Mc.1 58 1 ≤ nI p := by
        rw [frC_1 hB hF, nle (by omega) (by omega)]
        omega
      have e1 : Mc.1 58 1 = Int32.ofInt 1 ↔ H.pe = 1 := by
        rw [frC_1 hB hF, z_1, nI_eq (by omega) (by decide)]
      have inner : (H.pe = 1 → ∀ a, a < p + 1 → canL H (aw1 H.pe a)) → ∀ (d2 q : Nat) (Mc : aM), q + d2 = p → frC M4 Mc → (∀ b, b < q → canL H (aw2 H.pe p b)) → AW l (pI pg 223) (fcI M4 (fun y M' => frC M4 M' ∧ ((y = nI 1 ∧ ho2 H) ∨ (y = nI 0 ∧ ¬ ho2 H)))) 0 0 50 [(4, .int (nI q)), (3, .int (nI p)), (2, .int (nI (2 ^ H.pe - 1))), (1, .int (Int32.ofInt 1)), (0, .ref 58)] [] SHF Mc := by
        intro ha2 d2
        induction d2 with
        | zero =>
          intro q Mc hq hF hc
          have eq : q = p := by omega
          subst eq
          have le : nI q ≤ nI q := Int32.le_refl _
          refine hol_50 (frC_R hO hB hF) hl0 (fun h => absurd h z1) (fun _ _ => ?_) (fun _ _ => True) (fun _ h => absurd le h) (fun _ h => absurd le h) (fun _ h => absurd le h)
          rw [show nI q + Int32.ofInt 1 = nI (q + 1) from nI_1 q]
          refine ih (q + 1) Mc (by omega) hF ha2 (fun a h => ?_)
          by_cases e : a = q
          · subst e
            exact hc
          · exact hb a (by omega)
        | succ d2 ih2 =>
          intro q Mc hq hF hc
          have ng2 : ¬ nI p ≤ nI q := by
            rw [nle (by omega) (by omega)]
            omega
          refine hol_50 (frC_R hO hB hF) hl0 (fun h => absurd h z1) (fun _ h => absurd h ng2) (fun y M' => frC M4 M' ∧ ((y = 1 ∧ canL H (aw2 H.pe p q)) ∨ (y = 0 ∧ ¬ canL H (aw2 H.pe p q)))) (fun _ _ => ?_) (fun _ _ y5 M5 e5 q5 h7 => ?_) (fun _ _ y5 M5 e5 q5 h7 => ?_)
          · rw [aw2_m H.pe hp6 p (by omega) q (by omega)]
            exact can_x hl0 hO hI hB hF (aw2_lt H.pe hp6 p (by omega) q (by omega))
          · have cy := (q5.2.resolve_right (fun q => h7 q.1)).2
            rw [show nI q + Int32.ofInt 1 = nI (q + 1) from nI_1 q]
            refine ih2 (q + 1) M5 (by omega) q5.1 (fun b h => ?_)
            by_cases e : b = q
            · subst e
              exact cy
            · exact hc b (by omega)
          · have cn := (q5.2.resolve_left (fun q => absurd (q.1.symm.trans h7) (by decide))).2
            exact ⟨rfl, q5.1.1, _, rfl, q5.1, Or.inr ⟨rfl, fun h => cn (h.2 p (by omega) q (by omega))⟩⟩
      refine hol_11 (frC_R hO hB hF) hl0 (fun h => absurd h ng) (fun _ _ => True) (fun _ h3 => absurd h3 z1) (fun _ h3 => absurd h3 z1) (fun _ h3 => absurd h3 z1) (fun _ _ h9 => inner (fun e => absurd (e1.mpr e) h9) p 0 Mc (by omega) hF (fun b h => absurd h (Nat.not_lt_zero _))) (fun y M' => frC M4 M' ∧ ((y = 1 ∧ canL H (aw1 H.pe p)) ∨ (y = 0 ∧ ¬ canL H (aw1 H.pe p)))) (fun _ _ h9 => ?_) (fun _ _ h9 y11 M11 e11 q11 h13 => ?_) (fun _ _ h9 y11 M11 e11 q11 h13 => ?_)
      · rw [aw1_m H.pe hp6 p (by omega)]
        exact can_x hl0 hO hI hB hF (aw1_lt H.pe hp6 p (by omega))
      · have cy := (q11.2.resolve_right (fun q => h13 q.1)).2
        refine inner (fun e a h => ?_) p 0 M11 (by omega) q11.1 (fun b h => absurd h (Nat.not_lt_zero _))
        by_cases ea : a = p
        · subst ea
          exact cy
        · exact ha e a (by omega)
      · have cn := (q11.2.resolve_left (fun q => absurd (q.1.symm.trans h13) (by decide))).2
        have ee := e1.mp h9
        have e0 : p = 0 := by omega
        subst e0
        exact ⟨rfl, q11.1.1, _, rfl, q11.1, Or.inr ⟨rfl, fun h => cn (h.1 ee)⟩⟩
  exact outer H.pe 0 M4 (by omega) frC_0 (fun _ a h => absurd h (Nat.not_lt_zero _)) (fun a h => absurd h (Nat.not_lt_zero _))
def QMan (H : HS) (x z : Int32) (M' : aM) : Prop := (inN 4 x ∧ M'.1 58 0 = 0 ∧ anP H x z) ∨ (¬ inN 4 x ∧ M'.1 58 0 = 1)
theorem man_q {z : Int32} {M' : aM} (h : QMan H x z M') : mO (piN 4 (anP H x) x) z M' := by
  rcases h with ⟨h1, h2, h3⟩ | ⟨h1, h2⟩
  · exact Or.inr ⟨z, pn_is h1 h3 anP_u, rfl, h2⟩
  · exact Or.inl ⟨pn_no h1, h2⟩
theorem man_c (hl0 : l.1.stackTraces = false) (hO : okR R) (hk : cOk l pg R SHF en_98) (w0 : wcF R.1 58 0 (0, 2) = true) (hJ : JR R M) (hI : HI H) (hm : mHo H M) : AC l (pI pg 222) (fcI M (QMan H x)) 0 0 [.ref 58, .int x] SHF M := by
  have w8 := hI.2.1
  have hp6 := hI.pe
  have p6 := pw_le hp6
  have hR : ∀ e ∈ RM, M.2.2 e.1 e.2.1 = e.2.2 := fun e he => rgR_ok hJ.2 (hO.1 e he)
  have z1 : ¬ (1 : Int32) = 0 := by decide
  have m0 : mHo H (M0w M) := mH_fr0 hm
  have j0 : JR R (M0w M) := JR_set (q := (0, 2)) hJ w0 ⟨by decide, by decide⟩
  have base : ∀ {M6 : aM}, JR R M6 ∧ QlA H 0 (M0w M) M6 → bsR H R M6 ∧ M6.1 58 0 = 0 := fun {M6} q => ⟨⟨q.1, q.2.1, (q.2.2 58 1 (by decide) (by decide) (by decide)).trans m0.1, (q.2.2 58 2 (by decide) (by decide) (by decide)).trans m0.2.1⟩, (q.2.2 58 0 (by decide) (by decide) (by decide)).trans rfl⟩
  have f0 : ∀ {M6 Mc : aM}, JR R M6 ∧ QlA H 0 (M0w M) M6 → frC M6 Mc → Mc.1 58 0 = 0 := fun {M6 Mc} q hF => (hF.2 58 0 (by decide) (by decide) (by decide)).trans (base q).2
  refine fw_of hl0 ⟨by decide +kernel, by decide +kernel, by decide +kernel⟩ rfl ?_
  refine man_0 hR hl0 _ (wit_c (M := M0w M) (x := x) hl0 (m := 3) (c := Int32.ofInt 3) rfl (by decide)) (fun y1 M1 z M' => (¬ y1 = 0 ∧ z = 1 ∧ M' = M0w M) ∨ (y1 = 0 ∧ z = 0 ∧ M' = M1w M)) (fun y1 M1 e1 q1 => ?_) (fun y1 M1 y3 M3 M' => JR R M' ∧ QlA H 0 (M0w M) M') (fun y1 M1 e1 q1 y3 M3 e3 q3 h5 => ?_) (fun y1 M1 e1 q1 y3 M3 e3 q3 h5 M6 e6 q6 h8 => ?_) (fun y1 M1 y3 M3 M6 y M' => frC M6 M' ∧ ((y = nI 1 ∧ ho1 H) ∨ (y = nI 0 ∧ ¬ ho1 H))) (fun y1 M1 e1 q1 y3 M3 e3 q3 h5 M6 e6 q6 h8 h10 => hol1_c hl0 hO hI (base q6).1) (fun y1 M1 e1 q1 y3 M3 e3 q3 h5 M6 e6 q6 h8 h10 y11 M11 e11 q11 h13 => ?_) (fun y1 M1 e1 q1 y3 M3 e3 q3 h5 M6 e6 q6 h8 h10 y11 M11 e11 q11 h13 => ?_) (fun y1 M1 y3 M3 M6 y M' => frC M6 M' ∧ ((y = nI 1 ∧ ho2 H) ∨ (y = nI 0 ∧ ¬ ho2 H))) (fun y1 M1 e1 q1 y3 M3 e3 q3 h5 M6 e6 q6 h8 h10 => hol2_c hl0 hO hI (base q6).1) (fun y1 M1 e1 q1 y3 M3 e3 q3 h5 M6 e6 q6 h8 h10 y16 M16 e16 q16 h18 => ?_) (fun y1 M1 e1 q1 y3 M3 e3 q3 h5 M6 e6 q6 h8 h10 y16 M16 e16 q16 h18 => ?_) (fun y1 M1 e1 q1 y3 M3 e3 q3 h5 => ?_)
  · obtain ⟨rfl, -⟩ := q1
    exact rgh_c hl0 hR
  · obtain ⟨-, -, rfl⟩ := q3.resolve_right (fun q => h5 q.2.1)
    exact lal_j hl0 hk hR j0 hI m0
  · have n1 : inN 4 x := (q1.2.resolve_right (fun q => (q3.resolve_right (fun q => h5 q.2.1)).1 q.1)).2
    obtain ⟨hB, -⟩ := base q6
    have e22 : M6.2.2 = M.2.2 := e6.trans (e3.trans e1)
    rw [hB.2.2.1, fullW (by omega)]
    have x01 : x = nI 0 ∨ x = nI 1 := by
      rcases in4 n1 with e | e | e | e
      · exact Or.inl e
      · exact Or.inr e
      · rw [e] at h8
        exact absurd h8 (by decide)
      · rw [e] at h8
        exact absurd h8 (by decide)
    have outer : ∀ (d p : Nat) (Mc : aM), p + d = H.pe → frC M6 Mc → AW l (pI pg 222) (fcI M (QMan H x)) 0 0 71 [(5, .int (nI p)), (4, .int (nI (coV H p))), (3, .int (nI (mssV H p))), (2, .int (nI (2 ^ H.pe - 1))), (1, .int x), (0, .ref 58)] [] SHF Mc := by
      intro d
      induction d with
      | zero =>
        intro p Mc hp hF
        have ep : p = H.pe := by omega
        subst ep
        have le : Mc.1 58 1 ≤ nI H.pe := by rw [frC_1 hB hF]; exact Int32.le_refl _
        refine man_71 (frC_R hO hB hF) hl0 (fun _ h2 => ⟨rfl, hF.1.trans e22, _, rfl, Or.inl ⟨n1, f0 q6 hF, Or.inr (Or.inl ⟨x01.resolve_left h2, rfl⟩)⟩⟩) (fun _ h2 => ⟨rfl, hF.1.trans e22, _, rfl, Or.inl ⟨n1, f0 q6 hF, Or.inl ⟨h2, rfl⟩⟩⟩) (fun _ _ => True) (fun h => absurd le h) (fun h => absurd le h) (fun h => absurd le h)
      | succ d ih =>
        intro p Mc hp hF
        have ng : ¬ Mc.1 58 1 ≤ nI p := by
          rw [frC_1 hB hF, nle (by omega) (by omega)]
          omega
        have inner : ∀ (d2 q : Nat) (Mc : aM), q + d2 = p → frC M6 Mc → AW l (pI pg 222) (fcI M (QMan H x)) 0 0 109 [(6, .int (nI q)), (5, .int (nI p)), (4, .int (nI (coV H p + smF (fun b => coC H p b) q))), (3, .int (nI (mssV H (p + 1)))), (2, .int (nI (2 ^ H.pe - 1))), (1, .int x), (0, .ref 58)] [] SHF Mc := by
          intro d2
          induction d2 with
          | zero =>
            intro q Mc hq hF
            have eq : q = p := by omega
            subst eq
            have le : nI q ≤ nI q := Int32.le_refl _
            refine man_109 (frC_R hO hB hF) hl0 (fun _ => ?_) (fun _ _ => True) (fun h => absurd le h) (fun h => absurd le h) (fun h => absurd le h)
            rw [show nI q + Int32.ofInt 1 = nI (q + 1) from nI_1 q]
            exact ih (q + 1) Mc (by omega) hF
          | succ d2 ih2 =>
            intro q Mc hq hF
            have ng2 : ¬ nI p ≤ nI q := by
              rw [nle (by omega) (by omega)]
              omega
            refine man_109 (frC_R hO hB hF) hl0 (fun h => absurd h ng2) (fun y M' => frC M6 M' ∧ ((y = 1 ∧ canL H (aw2 H.pe p q)) ∨ (y = 0 ∧ ¬ canL H (aw2 H.pe p q)))) (fun _ => ?_) (fun _ y3 M3 e3 q3 h5 => ?_) (fun _ y3 M3 e3 q3 h5 => ?_)
            · rw [aw2_m H.pe hp6 p (by omega) q (by omega)]
              exact can_x hl0 hO hI hB hF (aw2_lt H.pe hp6 p (by omega) q (by omega))
            · have cn := (q3.2.resolve_left (fun q => absurd (q.1.symm.trans h5) (by decide))).2
              have k := ih2 (q + 1) M3 (by omega) q3.1
              rw [show smF (fun b => coC H p b) (q + 1) = smF (fun b => coC H p b) q + coC H p q from rfl, show coC H p q = 1 from nc_n cn, ← Nat.add_assoc] at k
              rw [show nI q + Int32.ofInt 1 = nI (q + 1) from nI_1 q, (show ∀ m, nI m + Int32.ofInt 1 = nI (m + 1) from fun m => nI_1 m)]
              exact k
            · have cy := (q3.2.resolve_right (fun q => h5 q.1)).2
              have k := ih2 (q + 1) M3 (by omega) q3.1
              rw [show smF (fun b => coC H p b) (q + 1) = smF (fun b => coC H p b) q + coC H p q from rfl, show coC H p q = 0 from nc_y cy, Nat.add_zero] at k
              rw [show nI q + Int32.ofInt 1 = nI (q + 1) from nI_1 q, show ∀ v : Int32, v + Int32.ofInt 0 = v from fun v => Int32.add_zero v]
              exact k
        have ml := mssV_lt (H := H) p
        have pl : 2 ^ p ≤ 2 ^ 6 := Nat.pow_le_pow_right (by decide) (by omega)
        refine man_71 (frC_R hO hB hF) hl0 (fun h => absurd h ng) (fun h => absurd h ng) (fun y M' => frC M6 M' ∧ ((y = 1 ∧ canL H (aw1 H.pe p)) ∨ (y = 0 ∧ ¬ canL H (aw1 H.pe p)))) (fun _ => ?_) (fun _ y5 M5 e5 q5 h7 => ?_) (fun _ y5 M5 e5 q5 h7 => ?_)
        · rw [aw1_m H.pe hp6 p (by omega)]
          exact can_x hl0 hO hI hB hF (aw1_lt H.pe hp6 p (by omega))
        · have cn := (q5.2.resolve_left (fun q => absurd (q.1.symm.trans h7) (by decide))).2
          rw [shW (show p ≤ 8 by omega), nI_orN (by omega) (by omega), mssV_n cn]
          exact inner p 0 M5 (by omega) q5.1
        · have cy := (q5.2.resolve_right (fun q => h7 q.1)).2
          rw [or_0 (by omega), ← mssV_y cy]
          exact inner p 0 M5 (by omega) q5.1
    exact outer H.pe 0 M6 (by omega) frC_0
  · have n1 : inN 4 x := (q1.2.resolve_right (fun q => (q3.resolve_right (fun q => h5 q.2.1)).1 q.1)).2
    have x2 : x = nI 2 := by
      rcases in4 n1 with e | e | e | e
      · rw [e] at h8
        exact absurd (by decide) h8
      · rw [e] at h8
        exact absurd (by decide) h8
      · exact e
      · exact absurd e h10
    exact ⟨rfl, e11.trans (e6.trans (e3.trans e1)), _, rfl, Or.inl ⟨n1, f0 q6 q11.1, Or.inr (Or.inr (Or.inl ⟨x2, Or.inr ⟨rfl, (q11.2.resolve_left (fun q => absurd (q.1.symm.trans h13) (by decide))).2⟩⟩))⟩⟩
  · have n1 : inN 4 x := (q1.2.resolve_right (fun q => (q3.resolve_right (fun q => h5 q.2.1)).1 q.1)).2
    have x2 : x = nI 2 := by
      rcases in4 n1 with e | e | e | e
      · rw [e] at h8
        exact absurd (by decide) h8
      · rw [e] at h8
        exact absurd (by decide) h8
      · exact e
      · exact absurd e h10
    exact ⟨rfl, e11.trans (e6.trans (e3.trans e1)), _, rfl, Or.inl ⟨n1, f0 q6 q11.1, Or.inr (Or.inr (Or.inl ⟨x2, Or.inl ⟨rfl, (q11.2.resolve_right (fun q => h13 q.1)).2⟩⟩))⟩⟩
  · have n1 : inN 4 x := (q1.2.resolve_right (fun q => (q3.resolve_right (fun q => h5 q.2.1)).1 q.1)).2
    exact ⟨rfl, e16.trans (e6.trans (e3.trans e1)), _, rfl, Or.inl ⟨n1, f0 q6 q16.1, Or.inr (Or.inr (Or.inr ⟨h10, Or.inr ⟨rfl, (q16.2.resolve_left (fun q => absurd (q.1.symm.trans h18) (by decide))).2⟩⟩))⟩⟩
  · have n1 : inN 4 x := (q1.2.resolve_right (fun q => (q3.resolve_right (fun q => h5 q.2.1)).1 q.1)).2
    exact ⟨rfl, e16.trans (e6.trans (e3.trans e1)), _, rfl, Or.inl ⟨n1, f0 q6 q16.1, Or.inr (Or.inr (Or.inr ⟨h10, Or.inl ⟨rfl, (q16.2.resolve_right (fun q => h18 q.1)).2⟩⟩))⟩⟩
  · obtain ⟨y0, -, rfl⟩ := q3.resolve_left (fun q => absurd (q.2.1.symm.trans h5) z1)
    have n1 : ¬ inN 4 x := (q1.2.resolve_left (fun q => absurd (q.1.symm.trans y0) z1)).2
    exact ⟨rfl, e3.trans e1, _, rfl, Or.inr ⟨n1, rfl⟩⟩
end ANR
