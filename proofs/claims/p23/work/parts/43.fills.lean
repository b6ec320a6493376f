/-! the methods around 'fills' of the reference, by what they answer -/
theorem s_lq : ∀ n, n < 32 → ((nI n &&& 31).toBitVec.smod 32).toNat = n := by decide +kernel
theorem bitN {t w : Nat} (ht : t < 2 ^ 31) (hw : w < 32) : (nI t >>> (nI w &&& 31)) &&& Int32.ofInt 1 = nI (t / 2 ^ w % 2) := by
  rw [pk_shrN ht _ w (s_lq w hw)]
  exact pk_andN (Nat.lt_of_le_of_lt (Nat.div_le_self _ _) (Nat.lt_of_lt_of_le ht (by decide))) 1 (by decide)
theorem bitT {t w : Nat} (ht : t < 2 ^ 31) (hw : w < 32) : ((nI t >>> (nI w &&& 31)) &&& Int32.ofInt 1 = Int32.ofInt 1) ↔ t.testBit w = true := by
  have h2 := Nat.mod_lt (t / 2 ^ w) (show 2 > 0 by decide)
  rw [bitN ht hw, show Int32.ofInt 1 = nI 1 from rfl, nI_eq (Nat.lt_trans h2 (by decide)) (by decide), Nat.testBit_eq_decide_div_mod_eq, decide_eq_true_eq]
theorem bitF {t w : Nat} (ht : t < 2 ^ 31) (hw : w < 32) : ((nI t >>> (nI w &&& 31)) &&& Int32.ofInt 1 = 0) ↔ t.testBit w = false := by
  have h2 := Nat.mod_lt (t / 2 ^ w) (show 2 > 0 by decide)
  rw [bitN ht hw, show (0 : Int32) = nI 0 from rfl, nI_eq (Nat.lt_trans h2 (by decide)) (by decide), Nat.testBit_eq_decide_div_mod_eq, decide_eq_false_iff_not]
  omega
theorem p2_8 {W : Nat} (hW : W ≤ 8) : 2 ^ W ≤ 256 := Nat.pow_le_pow_right (by decide) hW
theorem shW {W : Nat} (hW : W ≤ 8) : Int32.ofInt 1 <<< (nI W &&& 31) = nI (2 ^ W) := by
  have h0 := p2_8 hW
  have h := pk_shlN (n := 1) (nI W &&& 31) W (s_lq W (by omega)) (by omega)
  rw [Nat.one_mul] at h
  exact h
theorem fullW {W : Nat} (hW : W ≤ 8) : (Int32.ofInt 1 <<< (nI W &&& 31)) - Int32.ofInt 1 = nI (2 ^ W - 1) := by
  rw [shW hW]
  exact pk_sub (Nat.pos_of_ne_zero (by have := Nat.two_pow_pos W; omega))
theorem i_add {x y : Int32} (h1 : -2147483648 ≤ x.toInt + y.toInt) (h2 : x.toInt + y.toInt ≤ 2147483647) : (x + y).toInt = x.toInt + y.toInt := by
  rw [Int32.toInt_add, bm32 h1 h2]
theorem i_m1 {x : Int32} : x = Int32.ofInt (-1) ↔ x.toInt = -1 := by
  constructor
  · intro h
    rw [h]
    decide
  · intro h
    rw [← Int32.toInt_inj, h]
    decide
theorem i_nI {x : Int32} {p : Nat} (hp : p < 2 ^ 31) : x = nI p ↔ x.toInt = (p : Int) := by
  rw [← Int32.toInt_inj, nI_toInt hp]
/-- the reference's data, as a memory holds them -/
def mdl (M : aM) (N : Nat) (D : rD) (fx : Nat → Int) : Prop := (∀ e ∈ RM, M.2.2 e.1 e.2.1 = e.2.2) ∧ M.1 58 2 = nI (dW D) ∧ M.1 58 1 = nI N ∧ (∀ p k, M.1 73 (256 * p + k) = nI (dL D p k)) ∧ (∀ p, M.1 74 p = nI (dN D p)) ∧ (∀ p w, (M.1 75 (8 * p + w)).toInt = dG D p w) ∧ ∀ w, (M.1 76 w).toInt = fx w
def mdB (N : Nat) (D : rD) : Prop := dW D ≤ 8 ∧ N ≤ 6 ∧ (∀ p k, dL D p k < 256) ∧ (∀ p, dN D p ≤ 256) ∧ (∀ p w, 0 ≤ dG D p w ∧ dG D p w ≤ 20000) ∧ dLf D < 64
theorem mdl.keep {M M' : aM} {N : Nat} {D : rD} {fx : Nat → Int} (h : mdl M N D fx) (h1 : M'.2.2 = M.2.2) (h2 : ∀ a k, a ≠ 77 → a ≠ 78 → M'.1 a k = M.1 a k) : mdl M' N D fx := by
  obtain ⟨g1, g2, g3, g4, g5, g6, g7⟩ := h
  refine ⟨by rw [h1]; exact g1, ?_, ?_, fun p k => ?_, fun p => ?_, fun p w => ?_, fun w => ?_⟩
  · rw [h2 _ _ (by decide) (by decide)]; exact g2
  · rw [h2 _ _ (by decide) (by decide)]; exact g3
  · rw [h2 _ _ (by decide) (by decide)]; exact g4 p k
  · rw [h2 _ _ (by decide) (by decide)]; exact g5 p
  · rw [h2 _ _ (by decide) (by decide)]; exact g6 p w
  · rw [h2 _ _ (by decide) (by decide)]; exact g7 w
theorem ge_no {a b : Nat} (h : a < b) (hb : b < 2 ^ 31) {p : Prop} (h2 : nI b ≤ nI a) : p := absurd h2 (nI_ge h hb)
/-- copies out of 78 into 77 -/
def Q191 (M : aM) : aM → Prop := fun M' => (∀ k, k < 256 → M'.1 77 k = M.1 78 k) ∧ ∀ a k, a ≠ 77 → M'.1 a k = M.1 a k
theorem c191 {l : aL} (hl0 : l.1.stackTraces = false) {M : aM} (hJ : ∀ e ∈ RM, M.2.2 e.1 e.2.1 = e.2.2) : AC l (pI pg 192) (fcV M (Q191 M)) 0 0 [.ref 58, .ref 78, .ref 77] SHF M := by
  refine fw_of hl0 ⟨by decide +kernel, by decide +kernel, by decide +kernel⟩ rfl ?_
  refine s191_0 hJ ?_
  have loop : ∀ (d k : Nat) (M1 : aM), k + d = 256 → M1.2.2 = M.2.2 → (∀ a c, a ≠ 77 → M1.1 a c = M.1 a c) → (∀ c, c < k → M1.1 77 c = M.1 78 c) → AW l (pI pg 192) (fcV M (Q191 M)) 0 0 2 [(3, .int (nI k)), (0, .ref 58), (1, .ref 78), (2, .ref 77)] [] SHF M1 := by
    intro d
    induction d with
    | zero =>
      intro k M1 hk h1 h2 h3
      have hk : k = 256 := by omega
      subst hk
      refine s191_2 (by rw [h1]; exact hJ) (fun h => ?_) (fun h => absurd (Int32.le_refl _) h) (fun h => absurd (Int32.le_refl _) h)
      exact ⟨rfl, h1, rfl, fun c hc => h3 c hc, h2⟩
    | succ d ih =>
      intro k M1 hk h1 h2 h3
      refine s191_2 (by rw [h1]; exact hJ) (fun h => ge_no (by omega) (by decide) h) (fun h => vp_in_nI (by omega) (by decide)) (fun h => ?_)
      rw [nI_clamp (by omega), show nI k + Int32.ofInt 1 = nI (k + 1) from nI_1 k]
      refine ih (k + 1) _ (by omega) h1 (fun a c ha => ?_) (fun c hc => ?_)
      · rw [set_1, if_neg ha]
        exact h2 a c ha
      · rw [set_1, if_pos rfl]
        by_cases e : c = k
        · rw [if_pos e, h2 78 k (by decide), e]
        · rw [if_neg e]
          exact h3 c (by omega)
  exact loop 256 0 M rfl rfl (fun _ _ _ => rfl) (fun c hc => absurd hc (Nat.not_lt_zero _))
/-- nobody is fixed -/
def Q209 (M : aM) : aM → Prop := fun M' => (∀ k, k < 8 → M'.1 76 k = Int32.ofInt (-1)) ∧ (∀ k, 8 ≤ k → M'.1 76 k = M.1 76 k) ∧ ∀ a k, a ≠ 76 → M'.1 a k = M.1 a k
theorem c209 {l : aL} (hl0 : l.1.stackTraces = false) {M : aM} (hJ : ∀ e ∈ RM, M.2.2 e.1 e.2.1 = e.2.2) : AC l (pI pg 210) (fcV M (Q209 M)) 0 0 [.ref 58] SHF M := by
  refine fw_of hl0 ⟨by decide +kernel, by decide +kernel, by decide +kernel⟩ rfl ?_
  refine s209_0 hJ ?_
  have loop : ∀ (d k : Nat) (M1 : aM), k + d = 8 → M1.2.2 = M.2.2 → (∀ a c, a ≠ 76 → M1.1 a c = M.1 a c) → (∀ c, c < k → M1.1 76 c = Int32.ofInt (-1)) → (∀ c, 8 ≤ c → M1.1 76 c = M.1 76 c) → AW l (pI pg 210) (fcV M (Q209 M)) 0 0 2 [(1, .int (nI k)), (0, .ref 58)] [] SHF M1 := by
    intro d
    induction d with
    | zero =>
      intro k M1 hk h1 h2 h3 h4
      have hk : k = 8 := by omega
      subst hk
      refine s209_2 (by rw [h1]; exact hJ) (fun h => ?_) (fun h => absurd (by rw [z_8]; exact Int32.le_refl _) h) (fun h => absurd (by rw [z_8]; exact Int32.le_refl _) h)
      exact ⟨rfl, h1, rfl, fun c hc => h3 c hc, h4, h2⟩
    | succ d ih =>
      intro k M1 hk h1 h2 h3 h4
      refine s209_2 (by rw [h1]; exact hJ) (fun h => ge_no (b := 8) (a := k) (by omega) (by decide) (by rw [z_8] at h; exact h)) (fun h => vp_in_nI (by omega) (by decide)) (fun h => ?_)
      rw [nI_clamp (by omega), show nI k + Int32.ofInt 1 = nI (k + 1) from nI_1 k]
      refine ih (k + 1) _ (by omega) h1 (fun a c ha => ?_) (fun c hc => ?_) (fun c hc => ?_)
      · rw [set_1, if_neg ha]
        exact h2 a c ha
      · rw [set_1, if_pos rfl]
        by_cases e : c = k
        · rw [if_pos e]
        · rw [if_neg e]
          exact h3 c (by omega)
      · rw [set_1, if_pos rfl, if_neg (by omega)]
        exact h4 c hc
  exact loop 8 0 M rfl rfl (fun _ _ _ => rfl) (fun c hc => absurd hc (Nat.not_lt_zero _)) (fun _ _ => rfl)
/-- does a set keep what is fixed -/
def Q211 (D : rD) (fx : Nat → Int) (p t : Nat) (M : aM) : Int32 → aM → Prop := fun y M' => M' = M ∧ ((y = 1 ∧ okA (dW D) fx p t) ∨ (y = 0 ∧ ¬ okA (dW D) fx p t))
theorem c211 {l : aL} (hl0 : l.1.stackTraces = false) {M : aM} {N p t : Nat} {D : rD} {fx : Nat → Int} (hm : mdl M N D fx) (hb : mdB N D) (hp : p < 8) (ht : t < 256) : AC l (pI pg 212) (fcI M (Q211 D fx p t M)) 0 0 [.ref 58, .int (nI p), .int (nI t)] SHF M := by
  refine fw_of hl0 ⟨by decide +kernel, by decide +kernel, by decide +kernel⟩ rfl ?_
  refine s211_0 hm.1 ?_
  have hW := hb.1
  have loop : ∀ (d w : Nat), w + d = dW D → (∀ x, x < w → fx x = -1 ∨ (t.testBit x = true ↔ fx x = (p : Int))) → AW l (pI pg 212) (fcI M (Q211 D fx p t M)) 0 0 2 [(3, .int (nI w)), (0, .ref 58), (1, .int (nI p)), (2, .int (nI t))] [] SHF M := by
    intro d
    induction d with
    | zero =>
      intro w hw h
      have no : ¬ ¬ (M.1 58 2 ≤ nI w) := by
        rw [hm.2.1]
        exact fun h => h (nI_le (by omega) (by omega))
      refine s211_2 hm.1 (fun _ => ?_) (fun h => absurd h no) (fun h => absurd h no) (fun h => absurd h no) (fun h => absurd h no) (fun h => absurd h no) (fun h => absurd h no) (fun h => absurd h no) (fun h => absurd h no)
      exact ⟨rfl, rfl, _, rfl, rfl, Or.inl ⟨rfl, fun x hx => h x (by omega)⟩⟩
    | succ d ih =>
      intro w hw h
      have hf := hm.2.2.2.2.2.2 w
      have hix : vp_in (nI w) 8 := vp_in_nI (by omega) (by decide)
      have hbt := bitT (t := t) (w := w) (by omega) (by omega)
      have go : fx w = -1 ∨ (t.testBit w = true ↔ fx w = (p : Int)) → AW l (pI pg 212) (fcI M (Q211 D fx p t M)) 0 0 2 [(3, .int (nI w + Int32.ofInt 1)), (0, .ref 58), (1, .int (nI p)), (2, .int (nI t))] [] SHF M := by
        intro h9
        rw [show nI w + Int32.ofInt 1 = nI (w + 1) from nI_1 w]
        refine ih (w + 1) (by omega) (fun x hx => ?_)
        by_cases e : x = w
        · rw [e]
          exact h9
        · exact h x (by omega)
      have bad : ¬ (fx w = -1 ∨ (t.testBit w = true ↔ fx w = (p : Int))) → fcI M (Q211 D fx p t M) (.inl (some (.int (Int32.ofInt 0)))) SHF M := fun h9 => ⟨rfl, rfl, _, rfl, rfl, Or.inr ⟨rfl, fun h8 => h9 (h8 w (by omega))⟩⟩
      have hc : (nI w).toNatClampNeg = w := nI_clamp (by omega)
      refine s211_2 hm.1 (fun h => ?_) (fun _ _ => hix) (fun _ h3 h5 => go ?_) (fun _ h3 h5 h7 => go ?_) (fun _ h3 h5 h7 => bad ?_) (fun _ _ => hix) (fun _ h3 h5 => go ?_) (fun _ h3 h5 h7 => bad ?_) (fun _ h3 h5 h7 => go ?_)
      · rw [hm.2.1] at h
        exact ge_no (by omega) (by omega) h
      all_goals
        rw [hc, i_m1, hf] at h5
        rw [hbt] at h3
        try rw [hc, i_nI (show p < 2 ^ 31 by omega), hf] at h7
        simp_all
  exact loop (dW D) 0 (Nat.zero_add _) (fun x hx => absurd hx (Nat.not_lt_zero _))
theorem gvS_in {g : Nat → Int} (hg : ∀ w, 0 ≤ g w ∧ g w ≤ 20000) (t : Nat) : ∀ w, 0 ≤ gvS g w t ∧ gvS g w t ≤ 20000 * (w : Int)
  | 0 => ⟨Int.le_refl _, Int.le_refl _⟩
  | w + 1 => by
    have h1 := gvS_in hg t w
    have h2 := hg w
    unfold gvS
    split <;> omega
/-- the sum of a set's gains -/
def Q212 (D : rD) (p t : Nat) (M : aM) : Int32 → aM → Prop := fun y M' => M' = M ∧ y.toInt = gvS (dG D p) (dW D) t
theorem c212 {l : aL} (hl0 : l.1.stackTraces = false) {M : aM} {N p t : Nat} {D : rD} {fx : Nat → Int} (hm : mdl M N D fx) (hb : mdB N D) (hp : p < 6) (ht : t < 256) : AC l (pI pg 213) (fcI M (Q212 D p t M)) 0 0 [.ref 58, .int (nI p), .int (nI t)] SHF M := by
  refine fw_of hl0 ⟨by decide +kernel, by decide +kernel, by decide +kernel⟩ rfl ?_
  refine s212_0 hm.1 ?_
  have hW := hb.1
  have loop : ∀ (d w : Nat) (v : Int32), w + d = dW D → v.toInt = gvS (dG D p) w t → AW l (pI pg 213) (fcI M (Q212 D p t M)) 0 0 5 [(4, .int (nI w)), (3, .int v), (0, .ref 58), (1, .int (nI p)), (2, .int (nI t))] [] SHF M := by
    intro d
    induction d with
    | zero =>
      intro w v hw h
      have no : ¬ ¬ (M.1 58 2 ≤ nI w) := by
        rw [hm.2.1]
        exact fun h => h (nI_le (by omega) (by omega))
      refine s212_5 hm.1 (fun _ => ?_) (fun h => absurd h no) (fun h => absurd h no) (fun h => absurd h no)
      exact ⟨rfl, rfl, _, rfl, rfl, by rw [h, show w = dW D by omega]⟩
    | succ d ih =>
      intro w v hw h
      have hbt := bitT (t := t) (w := w) (by omega) (by omega)
      have hi : (Int8.ofInt 8).toInt32 * nI p + nI w = nI (8 * p + w) := by rw [z_8, pk_mul, nI_add]
      have hg := gvS_in (hb.2.2.2.2.1 p) t w
      have hgw := hb.2.2.2.2.1 p w
      refine s212_5 hm.1 (fun h => ?_) (fun _ h3 => ?_) (fun _ _ => ?_) (fun _ h3 => ?_)
      · rw [hm.2.1] at h
        exact ge_no (by omega) (by omega) h
      · rw [show nI w + Int32.ofInt 1 = nI (w + 1) from nI_1 w]
        refine ih (w + 1) _ (by omega) ?_
        rw [hbt] at h3
        unfold gvS
        rw [if_neg h3, i_add (by rw [show (Int32.ofInt 0).toInt = 0 from by decide]; omega) (by rw [show (Int32.ofInt 0).toInt = 0 from by decide]; omega), h]
        rfl
      · rw [hi]
        exact vp_in_nI (by omega) (by decide)
      · rw [show nI w + Int32.ofInt 1 = nI (w + 1) from nI_1 w, hi, nI_clamp (by omega)]
        refine ih (w + 1) _ (by omega) ?_
        rw [hbt] at h3
        have e := hm.2.2.2.2.2.1 p w
        unfold gvS
        rw [if_pos h3, i_add (by rw [e]; omega) (by rw [e]; omega), h, e]
  exact loop (dW D) 0 _ (Nat.zero_add _) rfl
