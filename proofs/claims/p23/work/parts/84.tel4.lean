/-! TELL, OFTEN, SELDOM -/
def telP (H : HS) (x y : Int32) : Prop := inN H.wo x ∧ (inN H.pe y ∨ y = Int32.ofInt (-1))
def QB (B : Prop) : Int32 → aM → Prop := fun z _ => (B ∧ z = Int32.ofInt 1) ∨ (¬ B ∧ z = Int32.ofInt 0)
theorem QB_eq {B : Prop} {y z : Int32} {M M' : aM} (h1 : QB B y M) (h2 : QB B z M') : y = z := by
  rcases h1 with ⟨a, b⟩ | ⟨a, b⟩ <;> rcases h2 with ⟨c, d⟩ | ⟨c, d⟩
  · rw [b, d]
  · exact absurd a c
  · exact absurd c a
  · rw [b, d]
/-- and what is counted of refusals (c: the row that counts) -/
def QT (c : Nat) (B : Prop) (M : aM) : Int32 → aM → Prop := fun z M' => (B ∧ z = Int32.ofInt 1 ∧ ∀ k, M'.1 c k = M.1 c k) ∨ (¬ B ∧ z = Int32.ofInt 0 ∧ M'.1 c 1 = M.1 c 1 + Int32.ofInt 1 ∧ ∀ k, k ≠ 1 → M'.1 c k = M.1 c k)
theorem QB_T {c : Nat} {B : Prop} {z : Int32} {M M' M'' : aM} (h : QT c B M z M') : QB B z M'' := h.imp (fun h => ⟨h.1, h.2.1⟩) (fun h => ⟨h.1, h.2.1⟩)
/-- returned, or thrown: false for no such element, true for a wrong argument -/
def tcS (M : aM) (o : Bool ⊕ Int32) : aP := fun r sh' M' => sh' = SHF ∧ M' = M ∧ ((o = .inl false ∧ r = .inr "java/util/NoSuchElementException") ∨ (o = .inl true ∧ r = .inr "java/lang/IllegalArgumentException") ∨ ∃ y : Int32, o = .inr y ∧ r = .inl (some (.int y)))
def ofS (c t : Nat) : Nat → Nat → Int32
  | 0, _ => Int32.ofInt (-1)
  | d + 1, v => if 1000 * (1000 * c) ≤ t * (1000 * c + (1000 - c) * v) then nI v else ofS c t d (v + 1)
def ofO (H : HS) (x y : Int32) : Bool ⊕ Int32 := if inN H.pe x then (if inN 1001 y then .inr (ofS (H.ch x.toNatClampNeg) y.toNatClampNeg 1001 0) else .inl true) else .inl false
def seV (w : Int32) : Nat → Int64
  | 0 => 1000000000
  | k + 1 => seV w k * (((Int16.ofInt 1000).toInt32) - w).toInt64 / 1000
def seO (H : HS) (x y : Int32) : Bool ⊕ Int32 := if inN H.pe x then (if inN 5001 y then .inr (seV (nI (H.ch x.toNatClampNeg)) y.toNatClampNeg).toInt32 else .inl true) else .inl false
theorem inN_yes {m : Nat} {c y : Int32} (hc : c = nI m) (hm : m + 1 < 2 ^ 31) (h1 : ¬ y < 0) (h2 : y ≤ c) : inN (m + 1) y := by
  subst hc
  have z : (0 : Int32).toInt = 0 := by decide
  rw [Int32.lt_iff_toInt_lt, z] at h1
  rw [Int32.le_iff_toInt_le, nI_toInt (by omega)] at h2
  unfold inN
  omega
theorem inN_nop {m : Nat} {c y : Int32} (hc : c = nI m) (hm : m + 1 < 2 ^ 31) (h : y < 0 ∨ ¬ y ≤ c) : ¬ inN (m + 1) y := by
  subst hc
  have z : (0 : Int32).toInt = 0 := by decide
  rw [Int32.lt_iff_toInt_lt, z, Int32.le_iff_toInt_le, nI_toInt (by omega)] at h
  unfold inN
  omega
theorem ch_le {H : HS} (hI : HI H) {i : Nat} (h : i < H.pe) : H.ch i ≤ 1000 := Nat.le_trans (smF_ge (f := H.ch) H.pe i h) hI.ch
theorem z_1000 : (Int16.ofInt 1000).toInt32 = nI 1000 := by decide
theorem z_5000 : (Int16.ofInt 5000).toInt32 = nI 5000 := by decide
/-- the numbers of often stay small -/
theorem of_b {c v : Nat} (hc : c ≤ 1000) (hv : v ≤ 1000) : 1000 * c + (1000 - c) * v ≤ 1000000 := by
  have h := Nat.mul_le_mul (Nat.le_refl (1000 - c)) hv
  omega
theorem of_t {c v t : Nat} (hc : c ≤ 1000) (hv : v ≤ 1000) (ht : t ≤ 1000) : t * (1000 * c + (1000 - c) * v) ≤ 1000000000 := Nat.le_trans (Nat.mul_le_mul ht (of_b hc hv)) (by decide)
def nL (n : Nat) : Int64 := Int64.ofNat n
theorem nL_mul (a b : Nat) : nL a * nL b = nL (a * b) := (Int64.ofNat_mul a b).symm
theorem nL_add (a b : Nat) : nL a + nL b = nL (a + b) := (Int64.ofNat_add a b).symm
theorem nL_toInt {a : Nat} (h : a < 2 ^ 63) : (nL a).toInt = (a : Int) := Int64.toInt_ofNat_of_lt h
theorem nL_sub {a b : Nat} (h : b ≤ a) (ha : a < 2 ^ 31) : nL a - nL b = nL (a - b) := by
  apply Int64.toInt_inj.mp
  rw [Int64.toInt_sub, nL_toInt (by omega), nL_toInt (by omega), nL_toInt (by omega)]
  simp only [Int.bmod]
  omega
theorem nL_I {a : Nat} (h : a < 2 ^ 31) : (nI a).toInt64 = nL a := by
  apply Int64.toInt_inj.mp
  rw [Int32.toInt_toInt64, nI_toInt h, nL_toInt (by omega)]
theorem nL_lt {a b : Nat} (ha : a < 2 ^ 63) (hb : b < 2 ^ 63) : nL a < nL b ↔ a < b := by
  rw [Int64.lt_iff_toInt_lt, nL_toInt ha, nL_toInt hb]
  omega
theorem cmp_gt {x y : Int64} : 0 < lg_cmp x y ↔ y < x := by
  unfold lg_cmp
  by_cases h1 : y < x
  · simp [h1]
  · by_cases h2 : x = y
    · subst h2
      simp
    · simp [h1, h2]
theorem of_C {c v t : Nat} (hc : c ≤ 1000) (hv : v ≤ 1000) (ht : t ≤ 1000) : nI t * (nI c * (Int16.ofInt 1000).toInt32 + ((Int16.ofInt 1000).toInt32 - nI c) * nI v) < nI c * (Int16.ofInt 1000).toInt32 * (Int16.ofInt 1000).toInt32 ↔ ¬ 1000 * (1000 * c) ≤ t * (1000 * c + (1000 - c) * v) := by
  have h1 := of_t hc hv ht
  rw [z_1000, nI_subN hc (by decide), nI_mulN, nI_mulN, nI_add, nI_mulN, nI_mulN, Nat.mul_comm c 1000, Nat.mul_comm (1000 * c) 1000, nI_ltI (by omega) (by omega)]
  omega
theorem of_M {c v t : Nat} (hc : c ≤ 1000) (hv : v ≤ 1000) (ht : t ≤ 1000) : 0 < lg_cmp ((1000 : Int64) * ((1000 : Int64) * (nI c).toInt64)) ((nI t).toInt64 * ((1000 : Int64) * (nI c).toInt64 + ((1000 : Int64) - (nI c).toInt64) * (nI v).toInt64)) ↔ ¬ 1000 * (1000 * c) ≤ t * (1000 * c + (1000 - c) * v) := by
  have h1 := of_t hc hv ht
  rw [cmp_gt, show (1000 : Int64) = nL 1000 by decide, nL_I (by omega), nL_I (by omega), nL_I (by omega), nL_sub hc (by decide), nL_mul, nL_mul, nL_mul, nL_add, nL_mul, nL_lt (by omega) (by omega)]
  omega
section TLA
variable {l : aL} {M : aM} {H : HS} {x y : Int32}
theorem tela_c (hl0 : l.1.stackTraces = false) (hJ : JR RR M) (hI : HI H) (hH : cHo 4 H M) {kc ks : Nat} : AC l (pI pg 27) (fcI M (QT 57 (telP H x y) M)) kc ks [.ref 0, .int x, .int y] SHF M := by
  have hp6 := hI.pe
  have hw8 := hI.wo
  have e1 : hpV (M.1 4 1) x = 0 ↔ ¬ inN H.wo x := by rw [hH.wo]; exact hpV_x (by omega)
  have e2 : hpV (M.1 4 0) y = 0 ↔ ¬ inN H.pe y := by rw [hH.pe]; exact hpV_x (by omega)
  have v1 : vp_in (Int32.ofInt 1) 3 := vp_in_nI (n := 1) (by decide) (by decide)
  have vx : ¬ hpV (M.1 4 1) x = 0 → vp_in x 8 := fun h => inN_vp (Decidable.not_not.mp (fun g => h (e1.mpr g))) hw8 (by decide)
  refine fw_of hl0 ⟨by decide +kernel, by decide +kernel, by decide +kernel⟩ rfl ?_
  have hz : (Int32.ofInt 1).toNatClampNeg = 1 := by decide
  have no : ∀ {B : Prop}, ¬ B → QT 57 B M (Int32.ofInt 0) (aset M 57 (Int32.ofInt 1).toNatClampNeg (.int (M.1 57 (Int32.ofInt 1).toNatClampNeg + Int32.ofInt 1))) := fun {B} h => by
    rw [hz]
    exact Or.inr ⟨h, rfl, rfl, fun k hk => by rw [set_1, if_pos rfl, if_neg hk]⟩
  refine tela_0 hJ.2 hl0 (fun _ => v1) (fun h3 => ⟨rfl, rfl, _, rfl, no (fun g => (e1.mp h3) g.1)⟩) (fun h3 _ => vx h3) (fun h3 h6 => ⟨rfl, rfl, _, rfl, Or.inl ⟨⟨Decidable.not_not.mp (fun g => h3 (e1.mpr g)), Or.inl (Decidable.not_not.mp (fun g => h6 (e2.mpr g)))⟩, rfl, fun _ => rfl⟩⟩) (fun h3 _ _ => vx h3) (fun h3 h6 h9 => ⟨rfl, rfl, _, rfl, Or.inl ⟨⟨Decidable.not_not.mp (fun g => h3 (e1.mpr g)), Or.inr h9⟩, rfl, fun _ => rfl⟩⟩) (fun _ _ _ => v1) (fun h3 h6 h9 => ⟨rfl, rfl, _, rfl, no (fun g => g.2.elim (e2.mp h6) h9)⟩)
theorem ofta_c (hl0 : l.1.stackTraces = false) (hJ : JR RR M) (hI : HI H) (hH : cHo 4 H M) : AC l (pI pg 152) (tcS M (ofO H x y)) 2 12 [.ref 0, .int x, .int y] SHF M := by
  have hp6 := hI.pe
  refine fw_of hl0 ⟨by decide +kernel, by decide +kernel, by decide +kernel⟩ rfl ?_
  have loop : inN H.pe x → inN 1001 y → ∀ (d v : Nat), v + d = 1001 → AW l (pI pg 152) (fun r sh' M' => sh' = SHF ∧ M' = M ∧ r = .inl (some (.int (ofS (H.ch x.toNatClampNeg) y.toNatClampNeg d v)))) 1 6 53 [(5, .int (nI v)), (4, .int (nI (H.ch x.toNatClampNeg) * (Int16.ofInt 1000).toInt32)), (3, .int (nI (H.ch x.toNatClampNeg))), (2, .int (nI y.toNatClampNeg)), (1, .int x), (0, .ref 0)] [] SHF M := by
    intro hx hy d
    have hc := ch_le hI (inN_lt hx)
    have ht := inN_lt hy
    induction d with
    | zero =>
      intro v hv
      have no : (Int16.ofInt 1000).toInt32 < nI v := by rw [z_1000, nI_ltI (by decide) (by omega)]; omega
      exact ofta_53 hJ.2 hl0 (fun _ => ⟨rfl, rfl, rfl⟩) (fun h => absurd no h) (fun h => absurd no h)
    | succ d ih =>
      intro v hv
      have yes : ¬ (Int16.ofInt 1000).toInt32 < nI v := by rw [z_1000, nI_ltI (by decide) (by omega)]; omega
      refine ofta_53 hJ.2 hl0 (fun h => absurd h yes) (fun _ h3 => ?_) (fun _ h3 => ⟨rfl, rfl, ?_⟩)
      · rw [of_C hc (by omega) (by omega)] at h3
        have := ih (v + 1) (by omega)
        rw [show ofS (H.ch x.toNatClampNeg) y.toNatClampNeg (d + 1) v = ofS (H.ch x.toNatClampNeg) y.toNatClampNeg d (v + 1) from if_neg h3, show nI v + Int32.ofInt 1 = nI (v + 1) from nI_1 _]
        exact this
      · rw [of_C hc (by omega) (by omega), Decidable.not_not] at h3
        rw [show ofS (H.ch x.toNatClampNeg) y.toNatClampNeg (d + 1) v = nI v from if_pos h3]
  have he : ∀ hx : inN H.pe x, M.1 6 x.toNatClampNeg = nI (H.ch x.toNatClampNeg) := fun hx => hH.ch _ (inN_lt hx)
  refine ofta_0 (kc := 0) (ks := 0) hJ.2 hl0 (¬ inN H.pe x) (cpea_c hl0 hJ hI hH) (fun b => ⟨rfl, rfl, Or.inl ⟨by rw [ofO, if_neg b], rfl⟩⟩) (fun b h4 => ⟨rfl, rfl, Or.inr (Or.inl ⟨?_, rfl⟩)⟩) (fun b _ _ => inN_vp (Decidable.not_not.mp b) hp6 (by decide)) (fun b h4 h6 h8 => ?_) (fun b h4 h6 h8 => ⟨rfl, rfl, Or.inr (Or.inr ⟨_, ?_, rfl⟩)⟩) (fun b h4 h6 => ⟨rfl, rfl, Or.inr (Or.inl ⟨?_, rfl⟩)⟩)
  · rw [ofO, if_pos (Decidable.not_not.mp b), if_neg (inN_nop (m := 1000) z_1000 (by decide) (Or.inl h4))]
  · have hx := Decidable.not_not.mp b
    have hy := inN_yes (m := 1000) z_1000 (by decide) h4 h6
    have k := loop hx hy 1001 0 (by decide)
    rw [← inN_eq hy] at k
    rw [he hx]
    refine k.post (fun r sh' M' hp => ?_)
    obtain ⟨p1, p2, p3⟩ := hp
    exact ⟨p1, p2, Or.inr (Or.inr ⟨_, by rw [ofO, if_pos hx, if_pos hy], p3⟩)⟩
  · have hx := Decidable.not_not.mp b
    have hy := inN_yes (m := 1000) z_1000 (by decide) h4 h6
    have hc := ch_le hI (inN_lt hx)
    rw [he hx] at h8
    have c0 : H.ch x.toNatClampNeg = 0 := nI_injN (b := 0) (by omega) (by decide) h8
    rw [ofO, if_pos hx, if_pos hy, c0]
    rw [show ofS 0 y.toNatClampNeg 1001 0 = nI 0 from if_pos (Nat.zero_le _)]
    rfl
  · rw [ofO, if_pos (Decidable.not_not.mp b), if_neg (inN_nop (m := 1000) z_1000 (by decide) (Or.inr h6))]
theorem sela_c (hl0 : l.1.stackTraces = false) (hJ : JR RR M) (hI : HI H) (hH : cHo 4 H M) : AC l (pI pg 154) (tcS M (seO H x y)) 2 12 [.ref 0, .int x, .int y] SHF M := by
  have hp6 := hI.pe
  refine fw_of hl0 ⟨by decide +kernel, by decide +kernel, by decide +kernel⟩ rfl ?_
  have loop : inN H.pe x → inN 5001 y → ∀ (d v : Nat), v + d = y.toNatClampNeg → AW l (pI pg 154) (fun r sh' M' => sh' = SHF ∧ M' = M ∧ r = .inl (some (.int (seV (nI (H.ch x.toNatClampNeg)) y.toNatClampNeg).toInt32))) 1 6 34 [(5, .int (nI v)), (3, .long (seV (nI (H.ch x.toNatClampNeg)) v)), (2, .int (nI y.toNatClampNeg)), (1, .int x), (0, .ref 0)] [] SHF M := by
    intro hx hy d
    have ht := inN_lt hy
    have he : M.1 6 x.toNatClampNeg = nI (H.ch x.toNatClampNeg) := hH.ch _ (inN_lt hx)
    induction d with
    | zero =>
      intro v hv
      have no : nI y.toNatClampNeg ≤ nI v := by rw [nI_leI (by omega) (by omega)]; omega
      refine sela_34 hJ.2 hl0 (fun _ => ⟨rfl, rfl, ?_⟩) (fun h => absurd no h) (fun h => absurd no h) (fun h => absurd no h)
      rw [show v = y.toNatClampNeg by omega]
    | succ d ih =>
      intro v hv
      have yes : ¬ nI y.toNatClampNeg ≤ nI v := by rw [nI_leI (by omega) (by omega)]; omega
      refine sela_34 hJ.2 hl0 (fun h => absurd h yes) (fun _ => inN_vp hx hp6 (by decide)) (fun _ => by decide) (fun _ => ?_)
      rw [he, show nI v + Int32.ofInt 1 = nI (v + 1) from nI_1 _]
      exact ih (v + 1) (by omega)
  refine sela_0 (kc := 0) (ks := 0) hJ.2 hl0 (¬ inN H.pe x) (cpea_c hl0 hJ hI hH) (fun b => ⟨rfl, rfl, Or.inl ⟨by rw [seO, if_neg b], rfl⟩⟩) (fun b h4 => ⟨rfl, rfl, Or.inr (Or.inl ⟨?_, rfl⟩)⟩) (fun b h4 h6 => ?_) (fun b h4 h6 => ⟨rfl, rfl, Or.inr (Or.inl ⟨?_, rfl⟩)⟩)
  · rw [seO, if_pos (Decidable.not_not.mp b), if_neg (inN_nop (m := 5000) z_5000 (by decide) (Or.inl h4))]
  · have hx := Decidable.not_not.mp b
    have hy := inN_yes (m := 5000) z_5000 (by decide) h4 h6
    have k := loop hx hy y.toNatClampNeg 0 (by omega)
    rw [← inN_eq hy] at k
    refine k.post (fun r sh' M' hp => ?_)
    obtain ⟨p1, p2, p3⟩ := hp
    exact ⟨p1, p2, Or.inr (Or.inr ⟨_, by rw [seO, if_pos hx, if_pos hy], p3⟩)⟩
  · rw [seO, if_pos (Decidable.not_not.mp b), if_neg (inN_nop (m := 5000) z_5000 (by decide) (Or.inr h6))]
end TLA
section TLB
variable {l : aL} {M : aM} {H : HS} {x y : Int32}
theorem telb_c (hl0 : l.1.stackTraces = false) (hJ : JR RRS M) (hI : HI H) (hH : cHo 17 H M) {kc ks : Nat} : AC l (pI pg 27) (fcI M (QT 57 (telP H x y) M)) kc ks [.ref 0, .int x, .int y] SHF M := by
  have hp6 := hI.pe
  have hw8 := hI.wo
  have e1 : hpV (M.1 17 1) x = 0 ↔ ¬ inN H.wo x := by rw [hH.wo]; exact hpV_x (by omega)
  have e2 : hpV (M.1 17 0) y = 0 ↔ ¬ inN H.pe y := by rw [hH.pe]; exact hpV_x (by omega)
  have v1 : vp_in (Int32.ofInt 1) 3 := vp_in_nI (n := 1) (by decide) (by decide)
  have vx : ¬ hpV (M.1 17 1) x = 0 → vp_in x 8 := fun h => inN_vp (Decidable.not_not.mp (fun g => h (e1.mpr g))) hw8 (by decide)
  refine fw_of hl0 ⟨by decide +kernel, by decide +kernel, by decide +kernel⟩ rfl ?_
  have hz : (Int32.ofInt 1).toNatClampNeg = 1 := by decide
  have no : ∀ {B : Prop}, ¬ B → QT 57 B M (Int32.ofInt 0) (aset M 57 (Int32.ofInt 1).toNatClampNeg (.int (M.1 57 (Int32.ofInt 1).toNatClampNeg + Int32.ofInt 1))) := fun {B} h => by
    rw [hz]
    exact Or.inr ⟨h, rfl, rfl, fun k hk => by rw [set_1, if_pos rfl, if_neg hk]⟩
  refine telb_0 hJ.2 hl0 (fun _ => v1) (fun h3 => ⟨rfl, rfl, _, rfl, no (fun g => (e1.mp h3) g.1)⟩) (fun h3 _ => vx h3) (fun h3 h6 => ⟨rfl, rfl, _, rfl, Or.inl ⟨⟨Decidable.not_not.mp (fun g => h3 (e1.mpr g)), Or.inl (Decidable.not_not.mp (fun g => h6 (e2.mpr g)))⟩, rfl, fun _ => rfl⟩⟩) (fun h3 _ _ => vx h3) (fun h3 h6 h9 => ⟨rfl, rfl, _, rfl, Or.inl ⟨⟨Decidable.not_not.mp (fun g => h3 (e1.mpr g)), Or.inr h9⟩, rfl, fun _ => rfl⟩⟩) (fun _ _ _ => v1) (fun h3 h6 h9 => ⟨rfl, rfl, _, rfl, no (fun g => g.2.elim (e2.mp h6) h9)⟩)
theorem oftb_c (hl0 : l.1.stackTraces = false) (hJ : JR RRS M) (hI : HI H) (hH : cHo 17 H M) : AC l (pI pg 152) (tcS M (ofO H x y)) 2 12 [.ref 0, .int x, .int y] SHF M := by
  have hp6 := hI.pe
  refine fw_of hl0 ⟨by decide +kernel, by decide +kernel, by decide +kernel⟩ rfl ?_
  have loop : inN H.pe x → inN 1001 y → ∀ (d v : Nat), v + d = 1001 → AW l (pI pg 152) (fun r sh' M' => sh' = SHF ∧ M' = M ∧ r = .inl (some (.int (ofS (H.ch x.toNatClampNeg) y.toNatClampNeg d v)))) 1 6 53 [(5, .int (nI v)), (4, .int (nI (H.ch x.toNatClampNeg) * (Int16.ofInt 1000).toInt32)), (3, .int (nI (H.ch x.toNatClampNeg))), (2, .int (nI y.toNatClampNeg)), (1, .int x), (0, .ref 0)] [] SHF M := by
    intro hx hy d
    have hc := ch_le hI (inN_lt hx)
    have ht := inN_lt hy
    induction d with
    | zero =>
      intro v hv
      have no : (Int16.ofInt 1000).toInt32 < nI v := by rw [z_1000, nI_ltI (by decide) (by omega)]; omega
      exact oftb_53 hJ.2 hl0 (fun _ => ⟨rfl, rfl, rfl⟩) (fun h => absurd no h) (fun h => absurd no h)
    | succ d ih =>
      intro v hv
      have yes : ¬ (Int16.ofInt 1000).toInt32 < nI v := by rw [z_1000, nI_ltI (by decide) (by omega)]; omega
      refine oftb_53 hJ.2 hl0 (fun h => absurd h yes) (fun _ h3 => ?_) (fun _ h3 => ⟨rfl, rfl, ?_⟩)
      · rw [of_C hc (by omega) (by omega)] at h3
        have := ih (v + 1) (by omega)
        rw [show ofS (H.ch x.toNatClampNeg) y.toNatClampNeg (d + 1) v = ofS (H.ch x.toNatClampNeg) y.toNatClampNeg d (v + 1) from if_neg h3, show nI v + Int32.ofInt 1 = nI (v + 1) from nI_1 _]
        exact this
      · rw [of_C hc (by omega) (by omega), Decidable.not_not] at h3
        rw [show ofS (H.ch x.toNatClampNeg) y.toNatClampNeg (d + 1) v = nI v from if_pos h3]
  have he : ∀ hx : inN H.pe x, M.1 19 x.toNatClampNeg = nI (H.ch x.toNatClampNeg) := fun hx => hH.ch _ (inN_lt hx)
  refine oftb_0 (kc := 0) (ks := 0) hJ.2 hl0 (¬ inN H.pe x) (cpeb_c hl0 hJ hI hH) (fun b => ⟨rfl, rfl, Or.inl ⟨by rw [ofO, if_neg b], rfl⟩⟩) (fun b h4 => ⟨rfl, rfl, Or.inr (Or.inl ⟨?_, rfl⟩)⟩) (fun b _ _ => inN_vp (Decidable.not_not.mp b) hp6 (by decide)) (fun b h4 h6 h8 => ?_) (fun b h4 h6 h8 => ⟨rfl, rfl, Or.inr (Or.inr ⟨_, ?_, rfl⟩)⟩) (fun b h4 h6 => ⟨rfl, rfl, Or.inr (Or.inl ⟨?_, rfl⟩)⟩)
  · rw [ofO, if_pos (Decidable.not_not.mp b), if_neg (inN_nop (m := 1000) z_1000 (by decide) (Or.inl h4))]
  · have hx := Decidable.not_not.mp b
    have hy := inN_yes (m := 1000) z_1000 (by decide) h4 h6
    have k := loop hx hy 1001 0 (by decide)
    rw [← inN_eq hy] at k
    rw [he hx]
    refine k.post (fun r sh' M' hp => ?_)
    obtain ⟨p1, p2, p3⟩ := hp
    exact ⟨p1, p2, Or.inr (Or.inr ⟨_, by rw [ofO, if_pos hx, if_pos hy], p3⟩)⟩
  · have hx := Decidable.not_not.mp b
    have hy := inN_yes (m := 1000) z_1000 (by decide) h4 h6
    have hc := ch_le hI (inN_lt hx)
    rw [he hx] at h8
    have c0 : H.ch x.toNatClampNeg = 0 := nI_injN (b := 0) (by omega) (by decide) h8
    rw [ofO, if_pos hx, if_pos hy, c0]
    rw [show ofS 0 y.toNatClampNeg 1001 0 = nI 0 from if_pos (Nat.zero_le _)]
    rfl
  · rw [ofO, if_pos (Decidable.not_not.mp b), if_neg (inN_nop (m := 1000) z_1000 (by decide) (Or.inr h6))]
theorem selb_c (hl0 : l.1.stackTraces = false) (hJ : JR RRS M) (hI : HI H) (hH : cHo 17 H M) : AC l (pI pg 154) (tcS M (seO H x y)) 2 12 [.ref 0, .int x, .int y] SHF M := by
  have hp6 := hI.pe
  refine fw_of hl0 ⟨by decide +kernel, by decide +kernel, by decide +kernel⟩ rfl ?_
  have loop : inN H.pe x → inN 5001 y → ∀ (d v : Nat), v + d = y.toNatClampNeg → AW l (pI pg 154) (fun r sh' M' => sh' = SHF ∧ M' = M ∧ r = .inl (some (.int (seV (nI (H.ch x.toNatClampNeg)) y.toNatClampNeg).toInt32))) 1 6 34 [(5, .int (nI v)), (3, .long (seV (nI (H.ch x.toNatClampNeg)) v)), (2, .int (nI y.toNatClampNeg)), (1, .int x), (0, .ref 0)] [] SHF M := by
    intro hx hy d
    have ht := inN_lt hy
    have he : M.1 19 x.toNatClampNeg = nI (H.ch x.toNatClampNeg) := hH.ch _ (inN_lt hx)
    induction d with
    | zero =>
      intro v hv
      have no : nI y.toNatClampNeg ≤ nI v := by rw [nI_leI (by omega) (by omega)]; omega
      refine selb_34 hJ.2 hl0 (fun _ => ⟨rfl, rfl, ?_⟩) (fun h => absurd no h) (fun h => absurd no h) (fun h => absurd no h)
      rw [show v = y.toNatClampNeg by omega]
    | succ d ih =>
      intro v hv
      have yes : ¬ nI y.toNatClampNeg ≤ nI v := by rw [nI_leI (by omega) (by omega)]; omega
      refine selb_34 hJ.2 hl0 (fun h => absurd h yes) (fun _ => inN_vp hx hp6 (by decide)) (fun _ => by decide) (fun _ => ?_)
      rw [he, show nI v + Int32.ofInt 1 = nI (v + 1) from nI_1 _]
      exact ih (v + 1) (by omega)
  refine selb_0 (kc := 0) (ks := 0) hJ.2 hl0 (¬ inN H.pe x) (cpeb_c hl0 hJ hI hH) (fun b => ⟨rfl, rfl, Or.inl ⟨by rw [seO, if_neg b], rfl⟩⟩) (fun b h4 => ⟨rfl, rfl, Or.inr (Or.inl ⟨?_, rfl⟩)⟩) (fun b h4 h6 => ?_) (fun b h4 h6 => ⟨rfl, rfl, Or.inr (Or.inl ⟨?_, rfl⟩)⟩)
  · rw [seO, if_pos (Decidable.not_not.mp b), if_neg (inN_nop (m := 5000) z_5000 (by decide) (Or.inl h4))]
  · have hx := Decidable.not_not.mp b
    have hy := inN_yes (m := 5000) z_5000 (by decide) h4 h6
    have k := loop hx hy y.toNatClampNeg 0 (by omega)
    rw [← inN_eq hy] at k
    refine k.post (fun r sh' M' hp => ?_)
    obtain ⟨p1, p2, p3⟩ := hp
    exact ⟨p1, p2, Or.inr (Or.inr ⟨_, by rw [seO, if_pos hx, if_pos hy], p3⟩)⟩
  · rw [seO, if_pos (Decidable.not_not.mp b), if_neg (inN_nop (m := 5000) z_5000 (by decide) (Or.inr h6))]
end TLB
section TLC
variable {l : aL} {M : aM} {H : HS} {x y : Int32}
theorem tel_c (hl0 : l.1.stackTraces = false) (hI : HI H) (h : hoC H M) {kc ks : Nat} : AC l (pI pg 27) (fcI M (QT 57 (telP H x y) M)) kc ks [.ref 0, .int x, .int y] SHF M := h.elim (fun h => tela_c hl0 h.1 hI h.2) (fun h => telb_c hl0 h.1 hI h.2)
theorem oft_c (hl0 : l.1.stackTraces = false) (hI : HI H) (h : hoC H M) : AC l (pI pg 152) (tcS M (ofO H x y)) 2 12 [.ref 0, .int x, .int y] SHF M := h.elim (fun h => ofta_c hl0 h.1 hI h.2) (fun h => oftb_c hl0 h.1 hI h.2)
theorem sel_c (hl0 : l.1.stackTraces = false) (hI : HI H) (h : hoC H M) : AC l (pI pg 154) (tcS M (seO H x y)) 2 12 [.ref 0, .int x, .int y] SHF M := h.elim (fun h => sela_c hl0 h.1 hI h.2) (fun h => selb_c hl0 h.1 hI h.2)
/-! the reference -/
theorem mtl_c (hl0 : l.1.stackTraces = false) (hR : ∀ e ∈ RM, M.2.2 e.1 e.2.1 = e.2.2) (hI : HI H) (hm : mHo H M) : AC l (pI pg 219) (fcI M (QT 66 (telP H x y) M)) 0 0 [.ref 58, .int x, .int y] SHF M := by
  have hp6 := hI.pe
  have hw8 := hI.wo
  have a1 : (aset M 58 0 (.int (Int32.ofInt 0))).1 58 1 = nI H.pe := hm.1
  have a2 : (aset M 58 0 (.int (Int32.ofInt 0))).1 58 2 = nI H.wo := hm.2.1
  have v1 : vp_in (Int32.ofInt 1) 3 := vp_in_nI (n := 1) (by decide) (by decide)
  have hx : ¬ x < 0 → ¬ (aset M 58 0 (.int (Int32.ofInt 0))).1 58 2 ≤ x → inN H.wo x := fun h1 h2 => Decidable.byContradiction fun h => ((inN_no (by omega)).mp h).elim h1 (fun g => h2 (by rw [a2]; exact g))
  have m1 : (Int32.ofInt (-1)).toInt = -1 := by decide
  refine fw_of hl0 ⟨by decide +kernel, by decide +kernel, by decide +kernel⟩ rfl ?_
  have hz : (Int32.ofInt 1).toNatClampNeg = 1 := by decide
  have no : ∀ {B : Prop}, ¬ B → QT 66 B M (Int32.ofInt 0) (aset (aset M 58 0 (.int (Int32.ofInt 0))) 66 (Int32.ofInt 1).toNatClampNeg (.int ((aset M 58 0 (.int (Int32.ofInt 0))).1 66 (Int32.ofInt 1).toNatClampNeg + Int32.ofInt 1))) := fun {B} h => by
    rw [hz]
    exact Or.inr ⟨h, rfl, rfl, fun k hk => by rw [set_1, if_pos rfl, if_neg hk]; rfl⟩
  refine mtl_0 hR (fun _ => v1) (fun h1 => ⟨rfl, rfl, _, rfl, no (fun g => (inN_no (by omega)).mpr (Or.inl h1) g.1)⟩) (fun _ _ => v1) (fun h1 h4 => ⟨rfl, rfl, _, rfl, no (fun g => (inN_no (by omega)).mpr (Or.inr (by rw [← a2]; exact h4)) g.1)⟩) (fun _ _ _ => v1) (fun h1 h4 h7 => ⟨rfl, rfl, _, rfl, no (fun g => ?_)⟩) (fun h1 h4 _ _ => inN_vp (hx h1 h4) hw8 (by decide)) (fun h1 h4 h7 h10 => ⟨rfl, rfl, _, rfl, Or.inl ⟨⟨hx h1 h4, ?_⟩, rfl, fun _ => rfl⟩⟩) (fun _ _ _ _ => v1) (fun h1 h4 h7 h10 => ⟨rfl, rfl, _, rfl, no (fun g => ?_)⟩)
  · rw [Int32.lt_iff_toInt_lt, m1] at h7
    rcases g.2 with g | g
    · have := g.1
      omega
    · rw [g, m1] at h7
      omega
  · rw [Int32.lt_iff_toInt_lt, m1] at h7
    rw [a1, Int32.lt_iff_toInt_lt, nI_toInt (by omega)] at h10
    by_cases e : y.toInt = -1
    · exact Or.inr (Int32.toInt_inj.mp (e.trans m1.symm))
    · exact Or.inl ⟨by omega, h10⟩
  · rw [a1, Int32.lt_iff_toInt_lt, nI_toInt (by omega)] at h10
    rcases g.2 with g | g
    · have := g.2
      omega
    · rw [g, m1] at h10
      omega
def M2w (M : aM) : aM := aset (aset M 58 0 (.int (Int32.ofInt 0))) 58 0 (.int (Int32.ofInt 2))
theorem rgj_c (hl0 : l.1.stackTraces = false) (hR : ∀ e ∈ RM, M.2.2 e.1 e.2.1 = e.2.2) {b : Int32} : AC l (pI pg 175) (fcI (M0w M) (fun z M' => (¬ b = 0 ∧ z = 1 ∧ M' = M0w M) ∨ (b = 0 ∧ z = 0 ∧ M' = M2w M))) 0 0 [.ref 58, .int b, .int (Int32.ofInt 2)] SHF (M0w M) := c174 (M := M0w M) (w := Int32.ofInt 2) hl0 hR rfl (by decide)
theorem wib_c (hl0 : l.1.stackTraces = false) {m : Nat} {c : Int32} (hc : c = nI m) (hm : m + 1 < 2 ^ 31) : AC l (pI pg 195) (fcI M (fun z M' => M' = M ∧ ((z = 1 ∧ inN (m + 1) x) ∨ (z = 0 ∧ ¬ inN (m + 1) x)))) 0 0 [.int x, .int (Int32.ofInt 0), .int c] SHF M := by
  subst hc
  have z : (Int32.ofInt 0).toInt = 0 := by decide
  refine fw_of hl0 ⟨by decide +kernel, by decide +kernel, by decide +kernel⟩ rfl ?_
  refine wit_0 (fun h => ⟨rfl, rfl, _, rfl, rfl, Or.inr ⟨rfl, ?_⟩⟩) (fun h1 h3 => ⟨rfl, rfl, _, rfl, rfl, Or.inr ⟨rfl, ?_⟩⟩) (fun h1 h3 => ⟨rfl, rfl, _, rfl, rfl, Or.inl ⟨rfl, ?_⟩⟩)
  · rw [Int32.lt_iff_toInt_lt, z] at h
    unfold inN
    omega
  · rw [Int32.lt_iff_toInt_lt, nI_toInt (by omega)] at h3
    unfold inN
    omega
  · rw [Int32.lt_iff_toInt_lt, z] at h1
    rw [Int32.lt_iff_toInt_lt, nI_toInt (by omega)] at h3
    unfold inN
    omega
def mOs (o : Bool ⊕ Int32) (z : Int32) (M' : aM) : Prop := (o = .inl false ∧ M'.1 58 0 = 1) ∨ (o = .inl true ∧ M'.1 58 0 = 2) ∨ ∃ v, o = .inr v ∧ z = v ∧ M'.1 58 0 = 0
def QOs (o : Bool ⊕ Int32) (M : aM) : Int32 → aM → Prop := fun z M' => mOs o z M' ∧ M'.2.1 = M.2.1
theorem mof_c (hl0 : l.1.stackTraces = false) (hR : ∀ e ∈ RM, M.2.2 e.1 e.2.1 = e.2.2) (hI : HI H) (hm : mHo H M) : AC l (pI pg 236) (fcI M (QOs (ofO H x y) M)) 0 0 [.ref 58, .int x, .int y] SHF M := by
  have hp6 := hI.pe
  have a1 := hm.1
  have a6 := hm.2.2.2.2.2.1
  have z1 : ¬ (1 : Int32) = 0 := by decide
  refine fw_of hl0 ⟨by decide +kernel, by decide +kernel, by decide +kernel⟩ rfl ?_
  have loop : inN H.pe x → inN 1001 y → ∀ (d v : Nat), v + d = 1001 → AW l (pI pg 236) (fcI M (fun z M' => z = ofS (H.ch x.toNatClampNeg) y.toNatClampNeg d v ∧ M' = M0w M)) 0 0 46 [(5, .int (nI v)), (3, .long ((1000 : Int64) * (nI (H.ch x.toNatClampNeg)).toInt64)), (2, .int (nI y.toNatClampNeg)), (1, .int x), (0, .ref 58)] [] SHF (M0w M) := by
    intro hx hy d
    have hc := ch_le hI (inN_lt hx)
    have ht := inN_lt hy
    have he : (M0w M).1 60 x.toNatClampNeg = nI (H.ch x.toNatClampNeg) := a6 _ (inN_lt hx)
    induction d with
    | zero =>
      intro v hv
      have no : (Int16.ofInt 1000).toInt32 < nI v := by rw [z_1000, nI_ltI (by decide) (by omega)]; omega
      exact mof_46 hR (fun _ => ⟨rfl, rfl, _, rfl, rfl, rfl⟩) (fun h => absurd no h) (fun h => absurd no h) (fun h => absurd no h)
    | succ d ih =>
      intro v hv
      have yes : ¬ (Int16.ofInt 1000).toInt32 < nI v := by rw [z_1000, nI_ltI (by decide) (by omega)]; omega
      refine mof_46 hR (fun h => absurd h yes) (fun _ => inN_vp hx hp6 (by decide)) (fun _ h4 => ?_) (fun _ h4 => ⟨rfl, rfl, _, rfl, ?_, rfl⟩)
      · rw [he, of_M hc (by omega) (by omega)] at h4
        have := ih (v + 1) (by omega)
        rw [show ofS (H.ch x.toNatClampNeg) y.toNatClampNeg (d + 1) v = ofS (H.ch x.toNatClampNeg) y.toNatClampNeg d (v + 1) from if_neg h4, show nI v + Int32.ofInt 1 = nI (v + 1) from nI_1 _]
        exact this
      · rw [he, of_M hc (by omega) (by omega), Decidable.not_not] at h4
        rw [show ofS (H.ch x.toNatClampNeg) y.toNatClampNeg (d + 1) v = nI v from if_pos h4]
  refine mof_0 hR _ (isp_c hl0 hR (by omega) a1) (fun y1 M1 e1 q1 h3 => ?_) (fun _ M1 z M' => M' = M1 ∧ ((z = 1 ∧ inN 1001 y) ∨ (z = 0 ∧ ¬ inN 1001 y))) (fun y1 M1 e1 q1 h3 => wib_c (m := 1000) hl0 z_1000 (by decide)) (fun _ M1 y5 M5 z M' => (¬ y5 = 0 ∧ z = 1 ∧ M' = M0w M) ∨ (y5 = 0 ∧ z = 0 ∧ M' = M2w M)) (fun y1 M1 e1 q1 h3 y5 M5 e5 q5 => ?_) (fun y1 M1 e1 q1 h3 y5 M5 e5 q5 y7 M7 e7 q7 h9 => ?_) (fun y1 M1 e1 q1 h3 y5 M5 e5 q5 y7 M7 e7 q7 h9 => ?_) (fun y1 M1 e1 q1 h3 y5 M5 e5 q5 y7 M7 e7 q7 h9 => ?_)
  · rcases q1 with ⟨-, q, -⟩ | ⟨q, -, rfl⟩
    · exact absurd (q.symm.trans h3) z1
    · exact ⟨rfl, rfl, _, rfl, Or.inl ⟨by rw [ofO, if_neg q], rfl⟩, rfl⟩
  all_goals
    obtain ⟨hx, -, rfl⟩ : inN H.pe x ∧ y1 = 1 ∧ M1 = M0w M := by
      rcases q1 with q | ⟨-, q, -⟩
      · exact q
      · exact absurd q h3
    obtain ⟨rfl, q5⟩ := q5
  · exact rgj_c hl0 hR
  · exact inN_vp hx hp6 (by decide)
  · obtain ⟨n5, -, rfl⟩ : ¬ y5 = 0 ∧ y7 = 1 ∧ M7 = M0w M := q7.elim id (fun q => absurd q.2.1 h9)
    have hy : inN 1001 y := q5.elim (fun q => q.2) (fun q => absurd q.1 n5)
    have he : (M0w M).1 60 x.toNatClampNeg = nI (H.ch x.toNatClampNeg) := a6 _ (inN_lt hx)
    have k := loop hx hy 1001 0 (by decide)
    rw [← inN_eq hy] at k
    rw [he]
    refine k.post (fun r sh' M' hp => ?_)
    obtain ⟨p1, p2, z, p3, p4, rfl⟩ := hp
    exact ⟨p1, p2, z, p3, Or.inr (Or.inr ⟨_, by rw [ofO, if_pos hx, if_pos hy], p4, rfl⟩), rfl⟩
  · obtain ⟨q5', -, rfl⟩ : y5 = 0 ∧ y7 = 0 ∧ M7 = M2w M := q7.elim (fun q => absurd (q.2.1.symm.trans h9) z1) id
    have hy : ¬ inN 1001 y := q5.elim (fun q => absurd (q.1.symm.trans q5') z1) (fun q => q.2)
    exact ⟨rfl, rfl, _, rfl, Or.inr (Or.inl ⟨by rw [ofO, if_pos hx, if_neg hy], rfl⟩), rfl⟩
theorem mse_c (hl0 : l.1.stackTraces = false) (hR : ∀ e ∈ RM, M.2.2 e.1 e.2.1 = e.2.2) (hI : HI H) (hm : mHo H M) : AC l (pI pg 237) (fcI M (QOs (seO H x y) M)) 0 0 [.ref 58, .int x, .int y] SHF M := by
  have hp6 := hI.pe
  have a1 := hm.1
  have a6 := hm.2.2.2.2.2.1
  have z1 : ¬ (1 : Int32) = 0 := by decide
  refine fw_of hl0 ⟨by decide +kernel, by decide +kernel, by decide +kernel⟩ rfl ?_
  have loop : inN H.pe x → inN 5001 y → ∀ (d v : Nat), v + d = y.toNatClampNeg → AW l (pI pg 237) (fcI M (fun z M' => z = (seV (nI (H.ch x.toNatClampNeg)) y.toNatClampNeg).toInt32 ∧ M' = M0w M)) 0 0 38 [(5, .int (nI v)), (3, .long (seV (nI (H.ch x.toNatClampNeg)) v)), (2, .int (nI y.toNatClampNeg)), (1, .int x), (0, .ref 58)] [] SHF (M0w M) := by
    intro hx hy d
    have ht := inN_lt hy
    have he : (M0w M).1 60 x.toNatClampNeg = nI (H.ch x.toNatClampNeg) := a6 _ (inN_lt hx)
    induction d with
    | zero =>
      intro v hv
      have no : nI y.toNatClampNeg ≤ nI v := by rw [nI_leI (by omega) (by omega)]; omega
      refine mse_38 hR (fun _ => ⟨rfl, rfl, _, rfl, ?_, rfl⟩) (fun h => absurd no h) (fun h => absurd no h) (fun h => absurd no h)
      rw [show v = y.toNatClampNeg by omega]
    | succ d ih =>
      intro v hv
      have yes : ¬ nI y.toNatClampNeg ≤ nI v := by rw [nI_leI (by omega) (by omega)]; omega
      refine mse_38 hR (fun h => absurd h yes) (fun _ => inN_vp hx hp6 (by decide)) (fun _ => by decide) (fun _ => ?_)
      rw [he, show nI v + Int32.ofInt 1 = nI (v + 1) from nI_1 _]
      exact ih (v + 1) (by omega)
  refine mse_0 hR _ (isp_c hl0 hR (by omega) a1) (fun y1 M1 e1 q1 h3 => ?_) (fun _ M1 z M' => M' = M1 ∧ ((z = 1 ∧ inN 5001 y) ∨ (z = 0 ∧ ¬ inN 5001 y))) (fun y1 M1 e1 q1 h3 => wib_c (m := 5000) hl0 z_5000 (by decide)) (fun _ M1 y5 M5 z M' => (¬ y5 = 0 ∧ z = 1 ∧ M' = M0w M) ∨ (y5 = 0 ∧ z = 0 ∧ M' = M2w M)) (fun y1 M1 e1 q1 h3 y5 M5 e5 q5 => ?_) (fun y1 M1 e1 q1 h3 y5 M5 e5 q5 y7 M7 e7 q7 h9 => ?_) (fun y1 M1 e1 q1 h3 y5 M5 e5 q5 y7 M7 e7 q7 h9 => ?_)
  · rcases q1 with ⟨-, q, -⟩ | ⟨q, -, rfl⟩
    · exact absurd (q.symm.trans h3) z1
    · exact ⟨rfl, rfl, _, rfl, Or.inl ⟨by rw [seO, if_neg q], rfl⟩, rfl⟩
  all_goals
    obtain ⟨hx, -, rfl⟩ : inN H.pe x ∧ y1 = 1 ∧ M1 = M0w M := by
      rcases q1 with q | ⟨-, q, -⟩
      · exact q
      · exact absurd q h3
    obtain ⟨rfl, q5⟩ := q5
  · exact rgj_c hl0 hR
  · obtain ⟨n5, -, rfl⟩ : ¬ y5 = 0 ∧ y7 = 1 ∧ M7 = M0w M := q7.elim id (fun q => absurd q.2.1 h9)
    have hy : inN 5001 y := q5.elim (fun q => q.2) (fun q => absurd q.1 n5)
    have k := loop hx hy y.toNatClampNeg 0 (by omega)
    rw [← inN_eq hy] at k
    refine k.post (fun r sh' M' hp => ?_)
    obtain ⟨p1, p2, z, p3, p4, rfl⟩ := hp
    exact ⟨p1, p2, z, p3, Or.inr (Or.inr ⟨_, by rw [seO, if_pos hx, if_pos hy], p4, rfl⟩), rfl⟩
  · obtain ⟨q5', -, rfl⟩ : y5 = 0 ∧ y7 = 0 ∧ M7 = M2w M := q7.elim (fun q => absurd (q.2.1.symm.trans h9) z1) id
    have hy : ¬ inN 5001 y := q5.elim (fun q => absurd (q.1.symm.trans q5') z1) (fun q => q.2)
    exact ⟨rfl, rfl, _, rfl, Or.inr (Or.inl ⟨by rw [seO, if_pos hx, if_neg hy], rfl⟩), rfl⟩
end TLC
/-! the helpers and the reference by their answers -/
def QPs (o : Bool ⊕ Int32) : Int32 → aM → Prop := fun k M' => (o = .inl false ∧ k = Int32.ofInt 1) ∨ (o = .inl true ∧ k = Int32.ofInt 2) ∨ ∃ y : Int32, o = .inr y ∧ k = Int32.ofInt 0 ∧ M'.2.1 93 0 = y.toInt64
theorem QPs_sme {o : Bool ⊕ Int32} {k : Int32} {M1 M : aM} (h : QPs o k M1) (hs : smeM M1 M) : QPs o k M := h.imp id (fun h => h.imp id (fun ⟨y, h1, h2, h3⟩ => ⟨y, h1, h2, (sme_aJ hs (i := 93) (k := 0) (n := 1) rfl (by decide)).symm.trans h3⟩))
theorem mOs_sme {o : Bool ⊕ Int32} {z : Int32} {M1 M : aM} (h : mOs o z M1) (hs : smeM M1 M) : mOs o z M := by
  have e : M.1 58 0 = M1.1 58 0 := (sme_fI hs (i := 58) (ci := 10) (k := 0) rfl rfl (by decide) rfl).symm
  unfold mOs at h ⊢
  rw [e]
  exact h
theorem cmpOs {o : Bool ⊕ Int32} {k z : Int32} {M2 M4 : aM} (h1 : QPs o k M2) (h2 : mOs o z M4) (h3 : M4.2.1 93 0 = M2.2.1 93 0) : M4.1 58 0 = k ∧ (k = 0 → M4.2.1 93 0 = z.toInt64) := by
  rcases h1 with ⟨a1, a2⟩ | ⟨a1, a2⟩ | ⟨y, a1, a2, a3⟩ <;> rcases h2 with ⟨b1, b2⟩ | ⟨b1, b2⟩ | ⟨v, b1, b2, b3⟩ <;> rw [a1] at b1 <;> cases b1
  · rw [a2, b2]
    exact ⟨rfl, fun h => absurd h (by decide)⟩
  · rw [a2, b2]
    exact ⟨rfl, fun h => absurd h (by decide)⟩
  · rw [a2, b3, h3, a3, b2]
    exact ⟨rfl, fun _ => rfl⟩
theorem hz_27 {l : aL} (hl0 : l.1.stackTraces = false) {M : aM} {u : Nat → Nat} {s : Nat} {H : HS} (h : LJ u s H M) {x y : Int32} : AC l (pI pg 27) (gcI (fun z M' => LJ u s H M' ∧ QB (telP H x y) z M')) 2 12 [.ref 0, .int x, .int y] SHF M := AC.joinG (fcgI hl0 (tel_c hl0 h.2.1 h.2.2.1) (fun z M' _ q => q)) (lm_27 hl0 h) (fun z M' M1 q2 q1 hs => ⟨q2, QB_T q1⟩)
theorem mz_219 {l : aL} (hl0 : l.1.stackTraces = false) {M : aM} {u : Nat → Nat} {s : Nat} {H : HS} (h : LJ u s H M) {x y : Int32} : AC l (pI pg 219) (gcI (fun z M' => LJ u s H M' ∧ QB (telP H x y) z M')) 0 0 [.ref 58, .int x, .int y] SHF M := AC.joinG (fcgI hl0 (mtl_c hl0 (LJ_RM h) h.2.1 h.2.2.2.1) (fun z M' _ q => q)) (lm_219 hl0 h) (fun z M' M1 q2 q1 hs => ⟨q2, QB_T q1⟩)
theorem hq_151 {l : aL} (hl0 : l.1.stackTraces = false) {M : aM} {x y : Int32} {o : Bool ⊕ Int32} (hc : AC l (pI pg 152) (tcS M o) 2 12 [.ref 0, .int x, .int y] SHF M) : ∀ hh, iT (pI pg 151) = tableOf hh → ACH l (pI pg 151) hh (gcI (QPs o)) 2 12 [.ref 0, .int x, .int y, .ref 93] SHF M := by
  intro hh hT
  refine ACH.of hl0 (by decide +kernel) (by decide +kernel) hT (Nat.le_of_ble_eq_true rfl) ?_
  refine AW.aload_n (dq rfl) rfl rfl ?_
  refine AW.iconst (dq rfl) ?_
  refine AW.aload_n (dq rfl) rfl rfl ?_
  refine AW.iload_n (dq rfl) rfl ?_
  refine AW.iload_n (dq rfl) rfl ?_
  obtain ⟨w1, w2, ⟨w, hq, hqc⟩, -⟩ := (pg_ok.2.2.1 151 64 152 0 2 rfl).1 rfl
  refine AW.callV (mj := pI pg 152) (as := [.int x, .int y]) (kc := 0) (ks := 0) (P1 := tcS M o) (dq rfl) rfl hq hqc w1 ⟨w2, room_spec (g := pg) (id := 151) (jd := 152) (by decide +kernel)⟩ (Nat.le_of_ble_eq_true rfl) hc (fun v sh' M' hp => ?_) (fun X sh' M' hp => ?_)
  · obtain ⟨rfl, rfl, ⟨-, h3⟩ | ⟨-, h3⟩ | ⟨z, h2, h3⟩⟩ := hp
    · cases h3
    · cases h3
    · cases h3
      refine AW.i2l (dq rfl) ?_
      refine AW.last (dq rfl) rfl (n := 1) (vp_in_nI (n := 0) (by decide) (by decide)) ?_
      refine AW.goto (dq rfl) (tgt := 21) (by decide) ?_
      refine AW.iconst (dq rfl) ?_
      refine AW.iret (dq rfl) rfl ?_
      exact ⟨rfl, _, rfl, Or.inr (Or.inr ⟨z, h2, rfl, rfl⟩)⟩
  · obtain ⟨rfl, rfl, ⟨h2, h3⟩ | ⟨h2, h3⟩ | ⟨z, -, h3⟩⟩ := hp
    · cases h3
      exact pg_ok.2.2.2.2.2.2.2.2 151 5 "java/util/NoSuchElementException" 1 rfl _ _ _ _ _ _ _ ⟨rfl, _, rfl, Or.inl ⟨h2, rfl⟩⟩
    · cases h3
      exact pg_ok.2.2.2.2.2.2.2.2 151 5 "java/lang/IllegalArgumentException" 2 rfl _ _ _ _ _ _ _ ⟨rfl, _, rfl, Or.inr (Or.inl ⟨h2, rfl⟩)⟩
    · cases h3
theorem hz_151 {l : aL} (hl0 : l.1.stackTraces = false) {M : aM} {u : Nat → Nat} {s : Nat} {H : HS} (h : LJ u s H M) {x y : Int32} : ∀ hh, iT (pI pg 151) = tableOf hh → ACH l (pI pg 151) hh (gcI (fun k M' => LJ u s H M' ∧ QPs (ofO H x y) k M')) 2 12 [.ref 0, .int x, .int y, .ref 93] SHF M := fun hh hT => ACH.joinG (hq_151 hl0 (oft_c hl0 h.2.1 h.2.2.1) hh hT) (lh_151 hl0 h hh hT) (fun k M' M1 q2 q1 hs => ⟨q2, QPs_sme q1 hs⟩)
theorem mz_236 {l : aL} (hl0 : l.1.stackTraces = false) {M : aM} {u : Nat → Nat} {s : Nat} {H : HS} (h : LJ u s H M) {x y : Int32} : AC l (pI pg 236) (gcI (fun z M' => LJ u s H M' ∧ mOs (ofO H x y) z M' ∧ M'.2.1 93 0 = M.2.1 93 0)) 0 0 [.ref 58, .int x, .int y] SHF M := AC.joinG (fcgI hl0 (mof_c hl0 (LJ_RM h) h.2.1 h.2.2.2.1) (fun z M' _ q => q)) (lm_236 hl0 h) (fun z M' M1 q2 q1 hs => ⟨q2, mOs_sme q1.1 hs, (sme_aJ hs (i := 93) (k := 0) (n := 1) rfl (by decide)).symm.trans (by rw [q1.2])⟩)
theorem hq_153 {l : aL} (hl0 : l.1.stackTraces = false) {M : aM} {x y : Int32} {o : Bool ⊕ Int32} (hc : AC l (pI pg 154) (tcS M o) 2 12 [.ref 0, .int x, .int y] SHF M) : ∀ hh, iT (pI pg 153) = tableOf hh → ACH l (pI pg 153) hh (gcI (QPs o)) 2 12 [.ref 0, .int x, .int y, .ref 93] SHF M := by
  intro hh hT
  refine ACH.of hl0 (by decide +kernel) (by decide +kernel) hT (Nat.le_of_ble_eq_true rfl) ?_
  refine AW.aload_n (dq rfl) rfl rfl ?_
  refine AW.iconst (dq rfl) ?_
  refine AW.aload_n (dq rfl) rfl rfl ?_
  refine AW.iload_n (dq rfl) rfl ?_
  refine AW.iload_n (dq rfl) rfl ?_
  obtain ⟨w1, w2, ⟨w, hq, hqc⟩, -⟩ := (pg_ok.2.2.1 153 67 154 0 2 rfl).1 rfl
  refine AW.callV (mj := pI pg 154) (as := [.int x, .int y]) (kc := 0) (ks := 0) (P1 := tcS M o) (dq rfl) rfl hq hqc w1 ⟨w2, room_spec (g := pg) (id := 153) (jd := 154) (by decide +kernel)⟩ (Nat.le_of_ble_eq_true rfl) hc (fun v sh' M' hp => ?_) (fun X sh' M' hp => ?_)
  · obtain ⟨rfl, rfl, ⟨-, h3⟩ | ⟨-, h3⟩ | ⟨z, h2, h3⟩⟩ := hp
    · cases h3
    · cases h3
    · cases h3
      refine AW.i2l (dq rfl) ?_
      refine AW.last (dq rfl) rfl (n := 1) (vp_in_nI (n := 0) (by decide) (by decide)) ?_
      refine AW.goto (dq rfl) (tgt := 21) (by decide) ?_
      refine AW.iconst (dq rfl) ?_
      refine AW.iret (dq rfl) rfl ?_
      exact ⟨rfl, _, rfl, Or.inr (Or.inr ⟨z, h2, rfl, rfl⟩)⟩
  · obtain ⟨rfl, rfl, ⟨h2, h3⟩ | ⟨h2, h3⟩ | ⟨z, -, h3⟩⟩ := hp
    · cases h3
      exact pg_ok.2.2.2.2.2.2.2.2 153 5 "java/util/NoSuchElementException" 1 rfl _ _ _ _ _ _ _ ⟨rfl, _, rfl, Or.inl ⟨h2, rfl⟩⟩
    · cases h3
      exact pg_ok.2.2.2.2.2.2.2.2 153 5 "java/lang/IllegalArgumentException" 2 rfl _ _ _ _ _ _ _ ⟨rfl, _, rfl, Or.inr (Or.inl ⟨h2, rfl⟩)⟩
    · cases h3
theorem hz_153 {l : aL} (hl0 : l.1.stackTraces = false) {M : aM} {u : Nat → Nat} {s : Nat} {H : HS} (h : LJ u s H M) {x y : Int32} : ∀ hh, iT (pI pg 153) = tableOf hh → ACH l (pI pg 153) hh (gcI (fun k M' => LJ u s H M' ∧ QPs (seO H x y) k M')) 2 12 [.ref 0, .int x, .int y, .ref 93] SHF M := fun hh hT => ACH.joinG (hq_153 hl0 (sel_c hl0 h.2.1 h.2.2.1) hh hT) (lh_153 hl0 h hh hT) (fun k M' M1 q2 q1 hs => ⟨q2, QPs_sme q1 hs⟩)
theorem mz_237 {l : aL} (hl0 : l.1.stackTraces = false) {M : aM} {u : Nat → Nat} {s : Nat} {H : HS} (h : LJ u s H M) {x y : Int32} : AC l (pI pg 237) (gcI (fun z M' => LJ u s H M' ∧ mOs (seO H x y) z M' ∧ M'.2.1 93 0 = M.2.1 93 0)) 0 0 [.ref 58, .int x, .int y] SHF M := AC.joinG (fcgI hl0 (mse_c hl0 (LJ_RM h) h.2.1 h.2.2.2.1) (fun z M' _ q => q)) (lm_237 hl0 h) (fun z M' M1 q2 q1 hs => ⟨q2, mOs_sme q1.1 hs, (sme_aJ hs (i := 93) (k := 0) (n := 1) rfl (by decide)).symm.trans (by rw [q1.2])⟩)
