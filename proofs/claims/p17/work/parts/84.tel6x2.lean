/-! LEARNING: what is sought; pure -/
/-- pains of a set of teachings -/
def pnS (H : HS) (ts : Nat) : Nat → Nat
  | 0 => 0
  | k + 1 => pnS H ts k + (if ts.testBit k = true then H.t3 k else 0)
def lnO (Q : Nat → Prop) (pn : Nat → Nat) (s : Nat) : Option Nat → Prop
  | none => ∀ t, t < s → ¬ Q t
  | some b => b < s ∧ Q b ∧ ∀ t, t < s → Q t → pn b < pn t ∨ (pn b = pn t ∧ b ≤ t)
section LNO
variable {Q : Nat → Prop} {pn : Nat → Nat} {s : Nat}
theorem ln_eq {v v' : Option Nat} (h : lnO Q pn s v) (h' : lnO Q pn s v') : v = v' := by
  cases v with
  | none =>
    cases v' with
    | none => rfl
    | some b => exact absurd h'.2.1 (h b h'.1)
  | some a =>
    cases v' with
    | none => exact absurd h.2.1 (h' a h.1)
    | some b =>
      have h1 := h.2.2 b h'.1 h'.2.1
      have h2 := h'.2.2 a h.1 h.2.1
      exact congrArg some (by omega)
theorem ln_keep {v : Option Nat} (h : lnO Q pn s v) (hr : ¬ Q s) : lnO Q pn (s + 1) v := by
  cases v with
  | none =>
    intro t ht
    by_cases e : t = s
    · rw [e]; exact hr
    · exact h t (by omega)
  | some b =>
    refine ⟨Nat.lt_succ_of_lt h.1, h.2.1, fun t ht hn => ?_⟩
    by_cases e : t = s
    · rw [e] at hn; exact absurd hn hr
    · exact h.2.2 t (by omega) hn
theorem ln_none (h : lnO Q pn s none) (hr : Q s) : lnO Q pn (s + 1) (some s) := by
  refine ⟨Nat.lt_succ_self _, hr, fun t ht hn => ?_⟩
  by_cases e : t = s
  · rw [e]; exact Or.inr ⟨rfl, Nat.le_refl _⟩
  · exact absurd hn (h t (by omega))
theorem ln_less {b : Nat} (h : lnO Q pn s (some b)) (hr : Q s) (hl : pn s < pn b) : lnO Q pn (s + 1) (some s) := by
  refine ⟨Nat.lt_succ_self _, hr, fun t ht hn => ?_⟩
  by_cases e : t = s
  · rw [e]; exact Or.inr ⟨rfl, Nat.le_refl _⟩
  · have := h.2.2 t (by omega) hn
    exact Or.inl (by omega)
theorem ln_ge {b : Nat} (h : lnO Q pn s (some b)) (hl : pn b ≤ pn s) : lnO Q pn (s + 1) (some b) := by
  refine ⟨Nat.lt_succ_of_lt h.1, h.2.1, fun t ht hn => ?_⟩
  by_cases e : t = s
  · rw [e]
    have := h.1
    omega
  · exact h.2.2 t (by omega) hn
end LNO
def pnH (H : HS) (s : Nat) : Nat := pnS H s H.te
section LPN
variable {H : HS} {f : Int64}
theorem pnS_le (hI : HI H) {ts : Nat} : ∀ k, k ≤ H.te → pnS H ts k ≤ 99 * k
  | 0, _ => Nat.zero_le _
  | k + 1, hk => by
    have h1 := pnS_le hI (ts := ts) k (by omega)
    have h2 := (hI.2.2.2.2.2.2.2.2.2.2.2 k (by omega)).2.2.2.2
    show pnS H ts k + (if ts.testBit k = true then H.t3 k else 0) ≤ 99 * (k + 1)
    by_cases e : ts.testBit k = true
    · rw [if_pos e]
      omega
    · rw [if_neg e]
      omega
theorem pnH_le (hI : HI H) (s : Nat) : pnH H s ≤ 792 := Nat.le_trans (pnS_le hI H.te (Nat.le_refl _)) (by have := hI.2.2.1; omega)
theorem pnS_y {ts k : Nat} (h : ts.testBit k = true) : pnS H ts (k + 1) = pnS H ts k + H.t3 k := by
  show pnS H ts k + (if ts.testBit k = true then H.t3 k else 0) = _
  rw [if_pos h]
theorem pnS_n {ts k : Nat} (h : ¬ ts.testBit k = true) : pnS H ts (k + 1) = pnS H ts k := by
  show pnS H ts k + (if ts.testBit k = true then H.t3 k else 0) = _
  rw [if_neg h, Nat.add_zero]
/-! more teachings never harm -/
theorem cdT_mono {a b p : Nat} (h : sbs a b) : ∀ k, sbs (cdT H a p k) (cdT H b p k)
  | 0 => fun _ hw => hw
  | k + 1 => fun w hw => by
    have hw : (cdT H a p k ||| (if a.testBit k = true ∧ H.t0 k = p then 2 ^ H.t1 k else 0)).testBit w = true := hw
    show (cdT H b p k ||| (if b.testBit k = true ∧ H.t0 k = p then 2 ^ H.t1 k else 0)).testBit w = true
    rw [Nat.testBit_or, Bool.or_eq_true] at hw ⊢
    rcases hw with hw | hw
    · exact Or.inl (cdT_mono h k w hw)
    · by_cases g : a.testBit k = true ∧ H.t0 k = p
      · rw [if_pos g] at hw
        rw [if_pos ⟨h k g.1, g.2⟩]
        exact Or.inr hw
      · rw [if_neg g, Nat.zero_testBit] at hw
        cases hw
theorem rea_up {cd cd' : Nat → Nat} {lf : Nat} : ∀ p {t : Nat}, (∀ q, q < p → sbs (cd q) (cd' q)) → rea H cd lf p t → rea H cd' lf p t
  | 0, _, _, h => h
  | p + 1, t, hc, h => by
    rcases h with ⟨h1, s, a, h2, h3, h4, h5, h6, h7⟩ | ⟨h1, h2⟩
    · exact Or.inl ⟨h1, s, a, h2, fun w hw => hc p (Nat.lt_succ_self _) w (h3 w hw), h4, h5, h6, rea_up p (fun q hq => hc q (by omega)) h7⟩
    · exact Or.inr ⟨h1, rea_up p (fun q hq => hc q (by omega)) h2⟩
theorem hoW_up {a b : Nat} (h : sbs a b) (h1 : hoW H f a) : hoW H f b := fun i hi hb => rea_up H.pe (fun q _ => cdT_mono h H.te) (h1 i hi hb)
/-- a set that lacks a needed teaching doesn't do -/
theorem nd_out {te nd s : Nat} {Q : Nat → Prop} (hm : ∀ a b, sbs a b → Q a → Q b) (hn : nd < 2 ^ te) (hs : s < 2 ^ te) (hb : ∀ j, j < te → (nd.testBit j = true ↔ ¬ Q ((2 ^ te - 1) ^^^ 2 ^ j))) (h : ¬ (nd &&& s = nd)) : ¬ Q s := fun q => h (sbs_and.mp (fun j hj => by
  have jt : j < te := Nat.lt_of_not_le fun hle => by rw [tb_no hn hle] at hj; cases hj
  have n1 := (hb j jt).mp hj
  cases e : s.testBit j with
  | true => rfl
  | false =>
    refine absurd (hm s _ (fun w hw => ?_) q) n1
    have wt : w < te := Nat.lt_of_not_le fun hle => by rw [tb_no hs hle] at hw; cases hw
    have wj : w ≠ j := fun e2 => by rw [e2, e] at hw; cases hw
    rw [Nat.testBit_xor, Nat.testBit_two_pow_sub_one, decide_eq_true wt, Nat.testBit_two_pow_of_ne (fun g => wj g.symm)]
    rfl))
def canT (H : HS) (ts lf : Nat) : Prop := rea H (fun p => cdT H ts p H.te) lf H.pe (2 ^ H.wo - 1)
def hT1 (H : HS) (ts : Nat) : Prop := ∀ p, p < H.pe → canT H ts (aw1 H.pe p)
def hT2 (H : HS) (ts : Nat) : Prop := (H.pe = 1 → canT H ts (aw1 H.pe 0)) ∧ ∀ p, p < H.pe → ∀ q, q < p → canT H ts (aw2 H.pe p q)
def hoB (H : HS) (b : Int32) (ts : Nat) : Prop := (b = 0 ∧ hT1 H ts) ∨ (¬ b = 0 ∧ hT2 H ts)
theorem hoB_0 {b : Int32} (h : b = 0) : hoB H b = hT1 H := funext fun ts => propext ⟨fun g => (g.resolve_right (fun q => q.1 h)).2, fun g => Or.inl ⟨h, g⟩⟩
theorem hoB_n {b : Int32} (h : ¬ b = 0) : hoB H b = hT2 H := funext fun ts => propext ⟨fun g => (g.resolve_left (fun q => h q.1)).2, fun g => Or.inr ⟨h, g⟩⟩
theorem hoW1 (hI : HI H) (hf : ∀ i, i < 64 → (bL f i = true ↔ ∃ p, p < H.pe ∧ i = aw1 H.pe p)) : hoW H f = hT1 H := funext fun ts => propext ⟨fun h p hp => by
  have al := aw1_lt H.pe hI.1 p hp
  have p6 := pw_le hI.1
  exact h _ (by omega) ((hf _ (by omega)).mpr ⟨p, hp, rfl⟩), fun h i hi hb => by
  obtain ⟨p, hp, rfl⟩ := (hf i hi).mp hb
  exact h p hp⟩
theorem hoW2 (hI : HI H) (hf : ∀ i, i < 64 → (bL f i = true ↔ (H.pe = 1 ∧ i = aw1 H.pe 0) ∨ ∃ p q, q < p ∧ p < H.pe ∧ i = aw2 H.pe p q)) : hoW H f = hT2 H := funext fun ts => propext ⟨fun h => ⟨fun e => by
  have al := aw1_lt H.pe hI.1 0 (by omega)
  have p6 := pw_le hI.1
  exact h _ (by omega) ((hf _ (by omega)).mpr (Or.inl ⟨e, rfl⟩)), fun p hp q hq => by
  have al := aw2_lt H.pe hI.1 p hp q (by omega)
  have p6 := pw_le hI.1
  exact h _ (by omega) ((hf _ (by omega)).mpr (Or.inr ⟨p, q, hq, hp, rfl⟩))⟩, fun h i hi hb => by
  rcases (hf i hi).mp hb with ⟨e, rfl⟩ | ⟨p, q, hq, hp, rfl⟩
  · exact h.1 e
  · exact h.2 p hp q hq⟩
def lnA (H : HS) (b : Int32) (v : Option Nat) : Prop := lnO (hoB H b) (pnH H) (2 ^ H.te) v
/-- a cell that is kept: not yet sought, or the answer -/
def LNc (H : HS) (b x : Int32) : Prop := x = (Int8.ofInt (-2)).toInt32 ∨ ∃ v, x = brV v ∧ lnA H b v
def LNt (H : HS) (M : aM) : Prop := LNc H 0 (M.1 40 2) ∧ LNc H 1 (M.1 40 3)
theorem br_two {v : Option Nat} (h : ∀ b, v = some b → b < 2 ^ 31) : ¬ brV v = (Int8.ofInt (-2)).toInt32 := by
  cases v with
  | none => decide
  | some b =>
    intro e
    have h1 := h b rfl
    have e : (nI b).toInt = ((Int8.ofInt (-2)).toInt32).toInt := congrArg Int32.toInt e
    rw [nI_toInt h1, show ((Int8.ofInt (-2)).toInt32).toInt = -2 by decide] at e
    omega
theorem br_on4 {v : Option Nat} (h : brV v = Int32.ofInt (-1)) (hv : ∀ b, v = some b → b < 2 ^ 31) : v = none := by
  cases v with
  | none => rfl
  | some b => exact absurd h (nI_nm1 (hv b rfl))
theorem lnA_lt {b : Int32} {v : Option Nat} (t8 : H.te ≤ 8) (h : lnA H b v) : ∀ s, v = some s → s < 256 := fun s e => by
  subst e
  have := h.1
  have := p2_8 t8
  omega
/-! the bound -/
def betO (H : HS) (k : Nat) : Option Nat → Option Nat
  | none => some k
  | some b => if H.t3 k < H.t3 b then some k else some b
def chp (H : HS) (w u : Nat) : Nat → Option Nat
  | 0 => none
  | k + 1 => if H.t1 k = w ∧ u.testBit k = false then betO H k (chp H w u k) else chp H w u k
def mrL (H : HS) (w : Nat) : Nat → Nat → Nat → Option Nat
  | 0, _, v => some v
  | n + 1, u, v => (chp H w u H.te).bind (fun b => mrL H w n (u ||| 2 ^ b) (v + H.t3 b))
def cnF (H : HS) (w : Nat) : Nat → Nat
  | 0 => 0
  | p + 1 => cnF H w p + (if 0 < H.sk (8 * p + w) then 1 else 0)
def bnF (H : HS) (m : Nat) : Nat → Nat → Nat → Option Nat
  | 0, _, v => some v
  | d + 1, w, v => (mrL H w (m - cnF H w H.pe) 0 v).bind (bnF H m d (w + 1))
theorem chp_no {w u k : Nat} (h : ¬ (H.t1 k = w ∧ u.testBit k = false)) : chp H w u (k + 1) = chp H w u k := if_neg h
theorem chp_is {w u k : Nat} (h : H.t1 k = w ∧ u.testBit k = false) : chp H w u (k + 1) = betO H k (chp H w u k) := if_pos h
theorem bet_l {k b : Nat} (h : H.t3 k < H.t3 b) : betO H k (some b) = some k := if_pos h
theorem bet_g {k b : Nat} (h : ¬ H.t3 k < H.t3 b) : betO H k (some b) = some b := if_neg h
theorem chp_lt {w u : Nat} : ∀ k {b : Nat}, chp H w u k = some b → b < k
  | 0, _, h => by cases h
  | k + 1, b, h => by
    by_cases c : H.t1 k = w ∧ u.testBit k = false
    · rw [chp_is c] at h
      cases e : chp H w u k with
      | none =>
        rw [e] at h
        cases h
        exact Nat.lt_succ_self _
      | some a =>
        have := chp_lt k e
        rw [e] at h
        by_cases g : H.t3 k < H.t3 a
        · rw [bet_l g] at h
          cases h
          exact Nat.lt_succ_self _
        · rw [bet_g g] at h
          cases h
          omega
    · rw [chp_no c] at h
      have := chp_lt k h
      omega
theorem cnF_le {w : Nat} : ∀ p, cnF H w p ≤ p
  | 0 => Nat.le_refl _
  | p + 1 => by
    have := cnF_le (w := w) p
    show cnF H w p + (if 0 < H.sk (8 * p + w) then 1 else 0) ≤ p + 1
    by_cases e : 0 < H.sk (8 * p + w)
    · rw [if_pos e]
      omega
    · rw [if_neg e]
      omega
theorem pc_sm (k : Nat) : ∀ n, ((List.range n).filter (fun i => k.testBit i)).length = smF (fun i => if k.testBit i = true then 1 else 0) n
  | 0 => rfl
  | n + 1 => by
    have e1 : ([n].filter (fun i => k.testBit i)).length = if k.testBit n = true then 1 else 0 := by
      cases e : k.testBit n <;> simp [e]
    rw [List.range_succ, List.filter_append, List.length_append, pc_sm k n, e1]
    rfl
theorem cn_pc (hI : HI H) {w : Nat} (hw : w < 8) : pcN (H.dr w) = cnF H w H.pe := by
  obtain ⟨d1, d2⟩ := hI.2.2.2.2.2.2.2.2.2.1 w hw
  have p6 := hI.1
  have lo : ∀ n, n ≤ H.pe → smF (fun i => if (H.dr w).testBit i = true then 1 else 0) n = cnF H w n := by
    intro n
    induction n with
    | zero => exact fun _ => rfl
    | succ n ih =>
      intro hn
      have d := d2 n (by omega)
      show smF (fun i => if (H.dr w).testBit i = true then 1 else 0) n + (if (H.dr w).testBit n = true then 1 else 0) = cnF H w n + (if 0 < H.sk (8 * n + w) then 1 else 0)
      rw [ih (by omega)]
      by_cases e : 0 < H.sk (8 * n + w)
      · rw [if_pos e, if_pos (d.mpr e)]
      · rw [if_neg e, if_neg (fun g => e (d.mp g))]
  have hi : ∀ d, H.pe + d ≤ 8 → smF (fun i => if (H.dr w).testBit i = true then 1 else 0) (H.pe + d) = smF (fun i => if (H.dr w).testBit i = true then 1 else 0) H.pe := by
    intro d
    induction d with
    | zero => exact fun _ => rfl
    | succ d ih =>
      intro hd
      have z : ¬ (H.dr w).testBit (H.pe + d) = true := fun g => by
        by_cases h6 : H.pe + d < 6
        · have := ((hI.2.2.2.2.2.2.2.1 (H.pe + d) w h6 hw).2 ((d2 _ h6).mp g)).1
          omega
        · rw [tb_no (w := 6) d1 (by omega)] at g
          cases g
      show smF (fun i => if (H.dr w).testBit i = true then 1 else 0) (H.pe + d) + (if (H.dr w).testBit (H.pe + d) = true then 1 else 0) = _
      rw [if_neg z, Nat.add_zero, ih (by omega)]
  have h8 := hi (8 - H.pe) (by omega)
  rw [show H.pe + (8 - H.pe) = 8 by omega] at h8
  exact (pc_sm (H.dr w) 8).trans (h8.trans (lo H.pe (Nat.le_refl _)))
theorem lack_i : ∀ m, m ≤ 3 → ∀ c, c ≤ 8 → ∀ i, i ≤ 3 → (nI m - nI c ≤ nI i ↔ m - c ≤ i) := by decide +kernel
theorem lack_0 : ∀ m, m ≤ 3 → ∀ c, c ≤ 8 → (nI m - nI c ≤ 0 ↔ m - c = 0) := by decide +kernel
theorem lack_1 : ∀ m, m ≤ 3 → ∀ c, c ≤ 8 → (nI m - nI c) - Int32.ofInt 1 = nI m - nI (c + 1) := by decide +kernel
theorem lack_z : ∀ m, m ≤ 3 → ∀ c, c ≤ 8 → (nI m - nI c) - Int32.ofInt 0 = nI m - nI c := by decide +kernel
theorem lack_d : ∀ m, m ≤ 3 → ∀ c, c ≤ 8 → (nI m - nI c) + Int32.ofInt (-1) = nI m - nI (c + 1) := by decide +kernel
end LPN
/-! the answers -/
def pnV (H : HS) : Option Nat → Int32
  | none => Int32.ofInt (-1)
  | some s => nI (pnH H s)
def leP (H : HS) (b x z : Int32) : Prop := (x = nI 0 ∧ ∃ v, lnA H b v ∧ z = pnV H v) ∨ (x = nI 1 ∧ ∃ v, lnA H b v ∧ z = brV v) ∨ (x = nI 2 ∧ ((b = 0 ∧ z = brV (bnF H 2 H.wo 0 0)) ∨ (¬ b = 0 ∧ z = brV (bnF H 3 H.wo 0 0))))
theorem leP_u {H : HS} {b x : Int32} : ∀ y z, leP H b x y → leP H b x z → y = z := by
  rintro y z (⟨a, v, c1, c2⟩ | ⟨a, v, c1, c2⟩ | ⟨a, c⟩) (⟨d, v', e1, e2⟩ | ⟨d, v', e1, e2⟩ | ⟨d, e⟩)
  · rw [c2, e2, ln_eq c1 e1]
  · exact absurd (a.symm.trans d) n01
  · exact absurd (a.symm.trans d) n02
  · exact absurd (d.symm.trans a) n01
  · rw [c2, e2, ln_eq c1 e1]
  · exact absurd (a.symm.trans d) n12
  · exact absurd (d.symm.trans a) n02
  · exact absurd (d.symm.trans a) n12
  · rcases c with ⟨c1, c2⟩ | ⟨c1, c2⟩ <;> rcases e with ⟨e1, e2⟩ | ⟨e1, e2⟩
    · rw [c2, e2]
    · exact absurd c1 e1
    · exact absurd e1 c1
    · rw [c2, e2]
theorem in3 {x : Int32} (h : inN 3 x) : x = nI 0 ∨ x = nI 1 ∨ x = nI 2 := by
  have h1 := inN_lt h
  have h2 := inN_eq h
  generalize x.toNatClampNeg = k at h1 h2
  subst h2
  rcases (show k = 0 ∨ k = 1 ∨ k = 2 by omega) with e | e | e <;> subst e
  · exact Or.inl rfl
  · exact Or.inr (Or.inl rfl)
  · exact Or.inr (Or.inr rfl)
theorem in3_of {k : Nat} (h : k < 3) : inN 3 (nI k) := by
  unfold inN
  rw [nI_toInt (by omega)]
  omega
def PLn (H : HS) (b x : Int32) (M : aM) : aP := fun r sh' M' => sh' = SHF ∧ ((¬ inN 3 x ∧ r = .inr "java/util/NoSuchElementException" ∧ M' = M) ∨ (inN 3 x ∧ ∃ y : Int32, r = .inl (some (.int y)) ∧ leP H b x y ∧ LNt H M'))
def frK (M M' : aM) : Prop := ∀ a k, a ≠ 42 → a ≠ 44 → a ≠ 40 → M'.1 a k = M.1 a k
