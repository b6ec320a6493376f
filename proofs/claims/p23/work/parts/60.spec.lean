/-! THE TEXT, as the document tells it: a fault is (what, where), else a house and the place behind -/
def npd (f : Nat → Nat) (i v : Nat) : Nat → Nat := fun j => if j = i then v else f j
theorem npd_eq {f : Nat → Nat} {i v : Nat} : npd f i v i = v := if_pos rfl
theorem npd_ne {f : Nat → Nat} {i v j : Nat} (h : j ≠ i) : npd f i v j = f j := if_neg h
def HS : Type := Nat × Nat × Nat × Nat × (Nat → Nat) × (Nat → Nat) × (Nat → Nat) × (Nat → Nat) × (Nat → Nat) × (Nat → Nat) × (Nat → Nat) × (Nat → Nat) × (Nat → Nat) × (Nat → Nat) × (Nat → Nat) × (Nat → Nat)
def HS.pe (H : HS) : Nat := H.1
def HS.wo (H : HS) : Nat := H.2.1
def HS.te (H : HS) : Nat := H.2.2.1
def HS.fo (H : HS) : Nat := H.2.2.2.1
def HS.ho (H : HS) : Nat → Nat := H.2.2.2.2.1
def HS.ch (H : HS) : Nat → Nat := H.2.2.2.2.2.1
def HS.cd (H : HS) : Nat → Nat := H.2.2.2.2.2.2.1
def HS.ml (H : HS) : Nat → Nat := H.2.2.2.2.2.2.2.1
def HS.be (H : HS) : Nat → Nat := H.2.2.2.2.2.2.2.2.1
def HS.le (H : HS) : Nat → Nat := H.2.2.2.2.2.2.2.2.2.1
def HS.dr (H : HS) : Nat → Nat := H.2.2.2.2.2.2.2.2.2.2.1
def HS.sk (H : HS) : Nat → Nat := H.2.2.2.2.2.2.2.2.2.2.2.1
def HS.t0 (H : HS) : Nat → Nat := H.2.2.2.2.2.2.2.2.2.2.2.2.1
def HS.t1 (H : HS) : Nat → Nat := H.2.2.2.2.2.2.2.2.2.2.2.2.2.1
def HS.t2 (H : HS) : Nat → Nat := H.2.2.2.2.2.2.2.2.2.2.2.2.2.2.1
def HS.t3 (H : HS) : Nat → Nat := H.2.2.2.2.2.2.2.2.2.2.2.2.2.2.2
def nul : Nat → Nat := fun _ => 0
def HS0 : HS := ⟨0, 0, 0, 0, nul, nul, nul, nul, nul, nul, nul, nul, nul, nul, nul, nul⟩
def addP (H : HS) (h c : Nat) : HS := ⟨H.pe + 1, H.wo, H.te, H.fo, npd H.ho H.pe h, npd H.ch H.pe c, H.cd, H.ml, H.be, H.le, H.dr, H.sk, H.t0, H.t1, H.t2, H.t3⟩
def addW (H : HS) (b m : Nat) : HS := ⟨H.pe, H.wo + 1, H.te, H.fo, H.ho, H.ch, H.cd, H.ml, npd H.be H.wo b, npd H.le H.wo m, H.dr, H.sk, H.t0, H.t1, H.t2, H.t3⟩
def addS (H : HS) (i w v : Nat) : HS := ⟨H.pe, H.wo, H.te, H.fo, H.ho, H.ch, npd H.cd i (H.cd i ||| 2 ^ w), H.ml, H.be, H.le, npd H.dr w (H.dr w ||| 2 ^ i), npd H.sk (8 * i + w) v, H.t0, H.t1, H.t2, H.t3⟩
def addL (H : HS) (i w v x : Nat) : HS := ⟨H.pe, H.wo, H.te + 1, H.fo, H.ho, H.ch, H.cd, npd H.ml i (H.ml i ||| 2 ^ w), H.be, H.le, H.dr, H.sk, npd H.t0 H.te i, npd H.t1 H.te w, npd H.t2 H.te v, npd H.t3 H.te x⟩
def addF (H : HS) (v : Nat) : HS := ⟨H.pe, H.wo, H.te, v, H.ho, H.ch, H.cd, H.ml, H.be, H.le, H.dr, H.sk, H.t0, H.t1, H.t2, H.t3⟩
def smF (f : Nat → Nat) : Nat → Nat
  | 0 => 0
  | k + 1 => smF f k + f k
theorem smF_npd {f : Nat → Nat} {i v : Nat} : ∀ k, k ≤ i → smF (npd f i v) k = smF f k
  | 0, _ => rfl
  | k + 1, h => by
    show smF (npd f i v) k + npd f i v k = smF f k + f k
    rw [smF_npd k (by omega), npd_ne (by omega)]
theorem smF_ge {f : Nat → Nat} : ∀ k j, j < k → f j ≤ smF f k
  | 0, _, h => absurd h (Nat.not_lt_zero _)
  | k + 1, j, h => by
    show f j ≤ smF f k + f k
    by_cases e : j = k
    · subst e
      omega
    · have := smF_ge (f := f) k j (by omega)
      omega
abbrev Flt := Nat × Nat
def bnd {α β : Type} (x : Flt ⊕ α) (f : α → Flt ⊕ β) : Flt ⊕ β := match x with
  | .inl e => .inl e
  | .inr a => f a
theorem bnd_ok {α β : Type} {x : Flt ⊕ α} {f : α → Flt ⊕ β} {b : β} (h : bnd x f = .inr b) : ∃ a, x = .inr a ∧ f a = .inr b := by
  cases x with
  | inl e => cases h
  | inr a => exact ⟨a, rfl, h⟩
section SPEC
variable (u : Nat → Nat) (n : Nat)
abbrev tS (p : Nat) : Nat := tkS u n p
abbrev tK (p : Nat) : Nat := tkK u n (tkS u n p)
abbrev tEe (p : Nat) : Nat := tkE u n (tkS u n p)
def wdAt (w : List Nat) (p : Nat) : Bool := decide (tK u n p = 1) && (decide (tEe u n p - tS u n p = w.length) && decide (∀ i, i < w.length → u (tS u n p + i) = w.getD i 0))
def numS (lo hi p : Nat) : Flt ⊕ (Nat × Nat) := if tK u n p = 2 then (if tEe u n p - tS u n p ≤ 4 then (if lo ≤ vlF u (tS u n p) (tEe u n p - tS u n p) ∧ vlF u (tS u n p) (tEe u n p - tS u n p) ≤ hi then .inr (vlF u (tS u n p) (tEe u n p - tS u n p), tEe u n p) else .inl (2, tS u n p)) else .inl (2, tS u n p)) else .inl (1, tS u n p)
def idS (many p : Nat) : Flt ⊕ (Nat × Nat) := if tK u n p = 2 then (if tEe u n p - tS u n p ≤ 4 then (if vlF u (tS u n p) (tEe u n p - tS u n p) < many then .inr (vlF u (tS u n p) (tEe u n p - tS u n p), tEe u n p) else .inl (3, tS u n p)) else .inl (2, tS u n p)) else .inl (1, tS u n p)
def endS (p : Nat) : Flt ⊕ Nat := if tK u n p = 3 then .inr (tEe u n p) else .inl (1, tS u n p)
def told (H : HS) (i w : Nat) : Bool := (H.cd i ||| H.ml i).testBit w
def newS (H : HS) (i p : Nat) : Flt ⊕ (Nat × Nat) := bnd (idS u n H.wo p) fun a => if told H i a.1 = true then .inl (4, tS u n p) else .inr a
def wPerson : List Nat := [112, 101, 114, 115, 111, 110]
def wWork : List Nat := [119, 111, 114, 107]
def wCan : List Nat := [99, 97, 110]
def wLearn : List Nat := [108, 101, 97, 114, 110]
def wForget : List Nat := [102, 111, 114, 103, 101, 116]
def wDrawn : List Nat := [100, 114, 97, 119, 110]
def chS (H : HS) (p : Nat) : Flt ⊕ (Nat × Nat) := bnd (numS u n 0 1000 p) fun a => if 1000 < smF H.ch H.pe + a.1 then .inl (5, tS u n p) else .inr a
def drS (H : HS) (p : Nat) : Flt ⊕ (Nat × Nat) := if wdAt u n wDrawn p = true then chS u n H (tEe u n p) else .inr (0, p)
def perS (H : HS) (p : Nat) : Flt ⊕ (HS × Nat) := if 6 ≤ H.pe then .inl (2, tS u n p) else bnd (numS u n 0 24 (tEe u n p)) fun a => bnd (drS u n H a.2) fun b => bnd (endS u n b.2) fun c => .inr (addP H a.1 b.1, c)
def worS (H : HS) (p : Nat) : Flt ⊕ (HS × Nat) := if 8 ≤ H.wo then .inl (2, tS u n p) else bnd (numS u n 0 23 (tEe u n p)) fun a => bnd (numS u n 1 (min 8 (24 - a.1)) a.2) fun b => bnd (endS u n b.2) fun c => .inr (addW H a.1 b.1, c)
def canS (H : HS) (p : Nat) : Flt ⊕ (HS × Nat) := bnd (idS u n H.pe (tEe u n p)) fun a => bnd (newS u n H a.1 a.2) fun b => bnd (numS u n 1 9 b.2) fun c => bnd (endS u n c.2) fun d => .inr (addS H a.1 b.1 c.1, d)
def leaS (H : HS) (p : Nat) : Flt ⊕ (HS × Nat) := if 8 ≤ H.te then .inl (2, tS u n p) else bnd (idS u n H.pe (tEe u n p)) fun a => bnd (newS u n H a.1 a.2) fun b => bnd (numS u n 1 9 b.2) fun c => bnd (numS u n 1 99 c.2) fun d => bnd (endS u n d.2) fun e => .inr (addL H a.1 b.1 c.1 d.1, e)
def forS (H : HS) (p : Nat) : Flt ⊕ (HS × Nat) := if H.fo ≠ 0 then .inl (5, tS u n p) else bnd (numS u n 1 50 (tEe u n p)) fun a => bnd (endS u n a.2) fun b => .inr (addF H a.1, b)
def linS (H : HS) (p : Nat) : Flt ⊕ (HS × Nat) := if wdAt u n wPerson p = true then perS u n H p else if wdAt u n wWork p = true then worS u n H p else if wdAt u n wCan p = true then canS u n H p else if wdAt u n wLearn p = true then leaS u n H p else if wdAt u n wForget p = true then forS u n H p else .inl (1, tS u n p)
def parS : Nat → HS → Nat → Flt ⊕ HS
  | 0, H, _ => .inr H
  | d + 1, H, p => if tK u n p = 0 then .inr H else bnd (linS u n H p) fun a => parS d a.1 a.2
end SPEC
/-- what a house keeps to -/
def HI (H : HS) : Prop := (H.pe ≤ 6) ∧ (H.wo ≤ 8) ∧ (H.te ≤ 8) ∧ (H.fo ≤ 50) ∧ (∀ i, i < H.pe → H.ho i ≤ 24) ∧ (smF H.ch H.pe ≤ 1000) ∧ (∀ w, w < H.wo → H.be w ≤ 23 ∧ 1 ≤ H.le w ∧ H.le w ≤ 8 ∧ H.be w + H.le w ≤ 24) ∧ (∀ i w, i < 6 → w < 8 → H.sk (8 * i + w) ≤ 9 ∧ (0 < H.sk (8 * i + w) → i < H.pe ∧ w < H.wo)) ∧ (∀ i, i < 6 → H.cd i < 256 ∧ ∀ w, w < 8 → ((H.cd i).testBit w = true ↔ 0 < H.sk (8 * i + w))) ∧ (∀ w, w < 8 → H.dr w < 64 ∧ ∀ i, i < 6 → ((H.dr w).testBit i = true ↔ 0 < H.sk (8 * i + w))) ∧ (∀ i, i < 6 → H.ml i < 256 ∧ ∀ w, w < 8 → ((H.ml i).testBit w = true ↔ ∃ k, k < H.te ∧ H.t0 k = i ∧ H.t1 k = w)) ∧ (∀ k, k < H.te → H.t0 k < H.pe ∧ H.t1 k < H.wo ∧ (1 ≤ H.t2 k ∧ H.t2 k ≤ 9) ∧ 1 ≤ H.t3 k ∧ H.t3 k ≤ 99)
theorem HI.pe {H : HS} (h : HI H) : H.pe ≤ 6 := h.1
theorem HI.wo {H : HS} (h : HI H) : H.wo ≤ 8 := h.2.1
theorem HI.te {H : HS} (h : HI H) : H.te ≤ 8 := h.2.2.1
theorem HI.fo {H : HS} (h : HI H) : H.fo ≤ 50 := h.2.2.2.1
theorem HI.ho {H : HS} (h : HI H) : ∀ i, i < H.pe → H.ho i ≤ 24 := h.2.2.2.2.1
theorem HI.ch {H : HS} (h : HI H) : smF H.ch H.pe ≤ 1000 := h.2.2.2.2.2.1
theorem HI.be {H : HS} (h : HI H) : ∀ w, w < H.wo → H.be w ≤ 23 ∧ 1 ≤ H.le w ∧ H.le w ≤ 8 ∧ H.be w + H.le w ≤ 24 := h.2.2.2.2.2.2.1
theorem HI.sk {H : HS} (h : HI H) : ∀ i w, i < 6 → w < 8 → H.sk (8 * i + w) ≤ 9 ∧ (0 < H.sk (8 * i + w) → i < H.pe ∧ w < H.wo) := h.2.2.2.2.2.2.2.1
theorem HI.cd {H : HS} (h : HI H) : ∀ i, i < 6 → H.cd i < 256 ∧ ∀ w, w < 8 → ((H.cd i).testBit w = true ↔ 0 < H.sk (8 * i + w)) := h.2.2.2.2.2.2.2.2.1
theorem HI.dr {H : HS} (h : HI H) : ∀ w, w < 8 → H.dr w < 64 ∧ ∀ i, i < 6 → ((H.dr w).testBit i = true ↔ 0 < H.sk (8 * i + w)) := h.2.2.2.2.2.2.2.2.2.1
theorem HI.ml {H : HS} (h : HI H) : ∀ i, i < 6 → H.ml i < 256 ∧ ∀ w, w < 8 → ((H.ml i).testBit w = true ↔ ∃ k, k < H.te ∧ H.t0 k = i ∧ H.t1 k = w) := h.2.2.2.2.2.2.2.2.2.2.1
theorem HI.tt {H : HS} (h : HI H) : ∀ k, k < H.te → H.t0 k < H.pe ∧ H.t1 k < H.wo ∧ (1 ≤ H.t2 k ∧ H.t2 k ≤ 9) ∧ 1 ≤ H.t3 k ∧ H.t3 k ≤ 99 := h.2.2.2.2.2.2.2.2.2.2.2
theorem HI.of {H : HS} (pe : H.pe ≤ 6) (wo : H.wo ≤ 8) (te : H.te ≤ 8) (fo : H.fo ≤ 50) (ho : ∀ i, i < H.pe → H.ho i ≤ 24) (ch : smF H.ch H.pe ≤ 1000) (be : ∀ w, w < H.wo → H.be w ≤ 23 ∧ 1 ≤ H.le w ∧ H.le w ≤ 8 ∧ H.be w + H.le w ≤ 24) (sk : ∀ i w, i < 6 → w < 8 → H.sk (8 * i + w) ≤ 9 ∧ (0 < H.sk (8 * i + w) → i < H.pe ∧ w < H.wo)) (cd : ∀ i, i < 6 → H.cd i < 256 ∧ ∀ w, w < 8 → ((H.cd i).testBit w = true ↔ 0 < H.sk (8 * i + w))) (dr : ∀ w, w < 8 → H.dr w < 64 ∧ ∀ i, i < 6 → ((H.dr w).testBit i = true ↔ 0 < H.sk (8 * i + w))) (ml : ∀ i, i < 6 → H.ml i < 256 ∧ ∀ w, w < 8 → ((H.ml i).testBit w = true ↔ ∃ k, k < H.te ∧ H.t0 k = i ∧ H.t1 k = w)) (tt : ∀ k, k < H.te → H.t0 k < H.pe ∧ H.t1 k < H.wo ∧ (1 ≤ H.t2 k ∧ H.t2 k ≤ 9) ∧ 1 ≤ H.t3 k ∧ H.t3 k ≤ 99) : HI H := ⟨pe, wo, te, fo, ho, ch, be, sk, cd, dr, ml, tt⟩
theorem HI_0 : HI HS0 := HI.of
  (pe := by decide)
  (wo := by decide)
  (te := by decide)
  (fo := by decide)
  (ho := fun i h => absurd h (Nat.not_lt_zero _))
  (ch := by decide)
  (be := fun w h => absurd h (Nat.not_lt_zero _))
  (sk := fun i w _ _ => ⟨Nat.zero_le _, fun h => absurd h (Nat.lt_irrefl 0)⟩)
  (cd := fun i _ => ⟨by show 0 < _; decide, fun w _ => ⟨fun h => absurd (h.symm.trans (show (HS0.cd i).testBit w = false from Nat.zero_testBit w)) (by decide), fun h => absurd h (Nat.lt_irrefl 0)⟩⟩)
  (dr := fun i _ => ⟨by show 0 < _; decide, fun w _ => ⟨fun h => absurd (h.symm.trans (show (HS0.dr i).testBit w = false from Nat.zero_testBit w)) (by decide), fun h => absurd h (Nat.lt_irrefl 0)⟩⟩)
  (ml := fun i _ => ⟨by show 0 < _; decide, fun w _ => ⟨fun h => absurd (h.symm.trans (show (HS0.ml i).testBit w = false from Nat.zero_testBit w)) (by decide), fun ⟨k, hk, _⟩ => absurd hk (Nat.not_lt_zero _)⟩⟩)
  (tt := fun k h => absurd h (Nat.not_lt_zero _))
theorem or_lt {a w m : Nat} (ha : a < 2 ^ m) (hw : w < m) : a ||| 2 ^ w < 2 ^ m := Nat.or_lt_two_pow ha (Nat.pow_lt_pow_right (by decide) hw)
theorem or_bit {a w v : Nat} : (a ||| 2 ^ w).testBit v = true ↔ a.testBit v = true ∨ v = w := by
  rw [Nat.testBit_or, Bool.or_eq_true, Nat.testBit_two_pow, decide_eq_true_eq]
  exact or_congr Iff.rfl ⟨Eq.symm, Eq.symm⟩
theorem HI_P {H : HS} (hI : HI H) {h c : Nat} (h1 : H.pe < 6) (h2 : h ≤ 24) (h3 : smF H.ch H.pe + c ≤ 1000) : HI (addP H h c) := HI.of
  (pe := h1)
  (wo := hI.wo)
  (te := hI.te)
  (fo := hI.fo)
  (ho := fun i hi => by
    show npd H.ho H.pe h i ≤ 24
    by_cases e : i = H.pe
    · rw [e, npd_eq]
      exact h2
    · rw [npd_ne e]
      have h4 : i < H.pe + 1 := hi
      exact hI.ho i (by omega))
  (ch := by
    show smF (npd H.ch H.pe c) H.pe + npd H.ch H.pe c H.pe ≤ 1000
    rw [smF_npd _ (Nat.le_refl _), npd_eq]
    exact h3)
  (be := hI.be)
  (sk := fun i w hi hw => ⟨(hI.sk i w hi hw).1, fun h => ⟨Nat.lt_succ_of_lt ((hI.sk i w hi hw).2 h).1, ((hI.sk i w hi hw).2 h).2⟩⟩)
  (cd := hI.cd)
  (dr := hI.dr)
  (ml := hI.ml)
  (tt := fun k hk => ⟨Nat.lt_succ_of_lt (hI.tt k hk).1, (hI.tt k hk).2⟩)
theorem HI_W {H : HS} (hI : HI H) {b m : Nat} (h1 : H.wo < 8) (h2 : b ≤ 23) (h3 : 1 ≤ m) (h4 : m ≤ 8) (h5 : b + m ≤ 24) : HI (addW H b m) := HI.of
  (pe := hI.pe)
  (wo := h1)
  (te := hI.te)
  (fo := hI.fo)
  (ho := hI.ho)
  (ch := hI.ch)
  (be := fun i hi => by
    show npd H.be H.wo b i ≤ 23 ∧ 1 ≤ npd H.le H.wo m i ∧ npd H.le H.wo m i ≤ 8 ∧ npd H.be H.wo b i + npd H.le H.wo m i ≤ 24
    by_cases e : i = H.wo
    · rw [e, npd_eq, npd_eq]
      exact ⟨h2, h3, h4, h5⟩
    · rw [npd_ne e, npd_ne e]
      have h4 : i < H.wo + 1 := hi
      exact hI.be i (by omega))
  (sk := fun i w hi hw => ⟨(hI.sk i w hi hw).1, fun h => ⟨((hI.sk i w hi hw).2 h).1, Nat.lt_succ_of_lt ((hI.sk i w hi hw).2 h).2⟩⟩)
  (cd := hI.cd)
  (dr := hI.dr)
  (ml := hI.ml)
  (tt := fun k hk => ⟨(hI.tt k hk).1, Nat.lt_succ_of_lt (hI.tt k hk).2.1, (hI.tt k hk).2.2⟩)
theorem HI_S {H : HS} (hI : HI H) {i w v : Nat} (h1 : i < H.pe) (h2 : w < H.wo) (h3 : 1 ≤ v) (h4 : v ≤ 9) : HI (addS H i w v) := by
  have hp := hI.pe
  have hw := hI.wo
  have sk' : ∀ j x, j < 6 → x < 8 → (0 < npd H.sk (8 * i + w) v (8 * j + x) ↔ 0 < H.sk (8 * j + x) ∨ (j = i ∧ x = w)) := fun j x hj hx => by
    by_cases e : 8 * j + x = 8 * i + w
    · rw [e, npd_eq]
      exact ⟨fun _ => Or.inr (by omega), fun _ => h3⟩
    · rw [npd_ne e]
      exact ⟨Or.inl, fun h => h.elim id (fun h => by omega)⟩
  exact HI.of
    (pe := hI.pe)
    (wo := hI.wo)
    (te := hI.te)
    (fo := hI.fo)
    (ho := hI.ho)
    (ch := hI.ch)
    (be := hI.be)
    (sk := fun j x hj hx => ⟨by
      show npd H.sk (8 * i + w) v (8 * j + x) ≤ 9
      by_cases e : 8 * j + x = 8 * i + w
      · rw [e, npd_eq]
        exact h4
      · rw [npd_ne e]
        exact (hI.sk j x hj hx).1, fun h => by
      rcases (sk' j x hj hx).mp h with h | ⟨h, h'⟩
      · exact (hI.sk j x hj hx).2 h
      · subst h
        subst h'
        exact ⟨h1, h2⟩⟩)
    (cd := fun j hj => by
      show npd H.cd i (H.cd i ||| 2 ^ w) j < 256 ∧ ∀ x, x < 8 → ((npd H.cd i (H.cd i ||| 2 ^ w) j).testBit x = true ↔ _)
      by_cases e : j = i
      · subst e
        rw [npd_eq]
        refine ⟨or_lt (m := 8) (hI.cd j hj).1 (by omega), fun x hx => ?_⟩
        rw [or_bit, (hI.cd j hj).2 x hx]
        exact ⟨fun h => (sk' j x hj hx).mpr (h.imp id (fun h => ⟨rfl, h⟩)), fun h => ((sk' j x hj hx).mp h).imp id (fun h => h.2)⟩
      · rw [npd_ne e]
        refine ⟨(hI.cd j hj).1, fun x hx => ?_⟩
        rw [(hI.cd j hj).2 x hx]
        exact ⟨fun h => (sk' j x hj hx).mpr (Or.inl h), fun h => ((sk' j x hj hx).mp h).elim id (fun h => absurd h.1 e)⟩)
    (dr := fun x hx => by
      show npd H.dr w (H.dr w ||| 2 ^ i) x < 64 ∧ ∀ j, j < 6 → ((npd H.dr w (H.dr w ||| 2 ^ i) x).testBit j = true ↔ _)
      by_cases e : x = w
      · subst e
        rw [npd_eq]
        refine ⟨or_lt (m := 6) (hI.dr x hx).1 (by omega), fun j hj => ?_⟩
        rw [or_bit, (hI.dr x hx).2 j hj]
        exact ⟨fun h => (sk' j x hj hx).mpr (h.imp id (fun h => ⟨h, rfl⟩)), fun h => ((sk' j x hj hx).mp h).imp id (fun h => h.1)⟩
      · rw [npd_ne e]
        refine ⟨(hI.dr x hx).1, fun j hj => ?_⟩
        rw [(hI.dr x hx).2 j hj]
        exact ⟨fun h => (sk' j x hj hx).mpr (Or.inl h), fun h => ((sk' j x hj hx).mp h).elim id (fun h => absurd h.2 e)⟩)
    (ml := hI.ml)
    (tt := hI.tt)
theorem HI_T {H : HS} (hI : HI H) {i w v y : Nat} (h0 : H.te < 8) (h1 : i < H.pe) (h2 : w < H.wo) (h3 : 1 ≤ v ∧ v ≤ 9) (h4 : 1 ≤ y ∧ y ≤ 99) : HI (addL H i w v y) := by
  have hp := hI.pe
  have hw := hI.wo
  have ex : ∀ j x, (∃ k, k < H.te + 1 ∧ npd H.t0 H.te i k = j ∧ npd H.t1 H.te w k = x) ↔ (∃ k, k < H.te ∧ H.t0 k = j ∧ H.t1 k = x) ∨ (i = j ∧ w = x) := fun j x => by
    constructor
    · rintro ⟨k, hk, e1, e2⟩
      by_cases e : k = H.te
      · rw [e, npd_eq] at e1 e2
        exact Or.inr ⟨e1, e2⟩
      · rw [npd_ne e] at e1 e2
        exact Or.inl ⟨k, by omega, e1, e2⟩
    · rintro (⟨k, hk, e1, e2⟩ | ⟨e1, e2⟩)
      · refine ⟨k, by omega, ?_, ?_⟩
        · rw [npd_ne (by omega)]
          exact e1
        · rw [npd_ne (by omega)]
          exact e2
      · refine ⟨H.te, by omega, ?_, ?_⟩
        · rw [npd_eq]
          exact e1
        · rw [npd_eq]
          exact e2
  exact HI.of
    (pe := hI.pe)
    (wo := hI.wo)
    (te := h0)
    (fo := hI.fo)
    (ho := hI.ho)
    (ch := hI.ch)
    (be := hI.be)
    (sk := hI.sk)
    (cd := hI.cd)
    (dr := hI.dr)
    (ml := fun j hj => by
      show npd H.ml i (H.ml i ||| 2 ^ w) j < 256 ∧ ∀ x, x < 8 → ((npd H.ml i (H.ml i ||| 2 ^ w) j).testBit x = true ↔ ∃ k, k < H.te + 1 ∧ npd H.t0 H.te i k = j ∧ npd H.t1 H.te w k = x)
      by_cases e : j = i
      · subst e
        rw [npd_eq]
        refine ⟨or_lt (m := 8) (hI.ml j hj).1 (by omega), fun x hx => ?_⟩
        rw [or_bit, (hI.ml j hj).2 x hx, ex]
        exact or_congr Iff.rfl ⟨fun h => ⟨rfl, h.symm⟩, fun h => h.2.symm⟩
      · rw [npd_ne e]
        refine ⟨(hI.ml j hj).1, fun x hx => ?_⟩
        rw [(hI.ml j hj).2 x hx, ex]
        exact ⟨Or.inl, fun h => h.elim id (fun h => absurd h.1.symm e)⟩)
    (tt := fun k hk => by
      show npd H.t0 H.te i k < H.pe ∧ npd H.t1 H.te w k < H.wo ∧ (1 ≤ npd H.t2 H.te v k ∧ npd H.t2 H.te v k ≤ 9) ∧ 1 ≤ npd H.t3 H.te y k ∧ npd H.t3 H.te y k ≤ 99
      by_cases e : k = H.te
      · rw [e, npd_eq, npd_eq, npd_eq, npd_eq]
        exact ⟨h1, h2, h3, h4⟩
      · rw [npd_ne e, npd_ne e, npd_ne e, npd_ne e]
        have h5 : k < H.te + 1 := hk
        exact hI.tt k (by omega))
theorem HI_F {H : HS} (hI : HI H) {v : Nat} (h : v ≤ 50) : HI (addF H v) := HI.of hI.pe hI.wo hI.te h hI.ho hI.ch hI.be hI.sk hI.cd hI.dr hI.ml hI.tt
section SPT
variable {u : Nat → Nat} {n : Nat}
theorem tS_ge (p : Nat) : p ≤ tS u n p := tkS_ge p
theorem tE_ge' (p : Nat) : p ≤ tEe u n p := Nat.le_trans (tkS_ge p) tkE_ge
theorem tE_le' {p : Nat} (h : p ≤ n) : tEe u n p ≤ n := tkE_le (tkS_le h)
theorem numS_ok {lo hi p : Nat} {a : Nat × Nat} (h : numS u n lo hi p = .inr a) : lo ≤ a.1 ∧ a.1 ≤ hi ∧ a.2 = tEe u n p := by
  unfold numS at h
  split at h
  · split at h
    · split at h
      · rename_i h1
        cases h
        exact ⟨h1.1, h1.2, rfl⟩
      · cases h
    · cases h
  · cases h
theorem idS_ok {m p : Nat} {a : Nat × Nat} (h : idS u n m p = .inr a) : a.1 < m ∧ a.2 = tEe u n p := by
  unfold idS at h
  split at h
  · split at h
    · split at h
      · rename_i h1
        cases h
        exact ⟨h1, rfl⟩
      · cases h
    · cases h
  · cases h
theorem endS_ok {p q : Nat} (h : endS u n p = .inr q) : tK u n p = 3 ∧ q = tEe u n p := by
  unfold endS at h
  split at h
  · rename_i h1
    cases h
    exact ⟨h1, rfl⟩
  · cases h
theorem tE_gt {p : Nat} (h : tK u n p = 3) : p < tEe u n p := by
  have h1 := tkS_ge (u := u) (n := n) p
  have h2 : tkK u n (tkS u n p) = 3 := h
  show p < tkE u n (tkS u n p)
  generalize tkS u n p = s at *
  unfold tkK at h2
  unfold tkE
  split at h2
  · rename_i h3
    rw [if_pos h3]
    split at h2
    · cases h2
    · rename_i h4
      rw [if_neg h4]
      split at h2
      · cases h2
      · rename_i h5
        rw [if_neg h5]
        omega
  · cases h2
theorem newS_ok {H : HS} {i p : Nat} {a : Nat × Nat} (h : newS u n H i p = .inr a) : a.1 < H.wo ∧ a.2 = tEe u n p ∧ told H i a.1 = false := by
  obtain ⟨b, h1, h2⟩ := bnd_ok h
  have h3 := idS_ok h1
  cases e : told H i b.1 with
  | true =>
    rw [if_pos e] at h2
    cases h2
  | false =>
    rw [if_neg (by rw [e]; decide)] at h2
    cases h2
    exact ⟨h3.1, h3.2, e⟩
theorem chS_ok {H : HS} {p : Nat} {a : Nat × Nat} (h : chS u n H p = .inr a) : smF H.ch H.pe + a.1 ≤ 1000 ∧ a.2 = tEe u n p := by
  obtain ⟨b, h1, h2⟩ := bnd_ok h
  have h3 := numS_ok h1
  split at h2
  · cases h2
  · cases h2
    exact ⟨by omega, h3.2.2⟩
theorem drS_ok {H : HS} (hI : HI H) {p : Nat} {a : Nat × Nat} (hp : p ≤ n) (h : drS u n H p = .inr a) : smF H.ch H.pe + a.1 ≤ 1000 ∧ p ≤ a.2 ∧ a.2 ≤ n := by
  unfold drS at h
  split at h
  · have h1 := chS_ok h
    have h2 := tE_ge' (u := u) (n := n) p
    have h3 := tE_ge' (u := u) (n := n) (tEe u n p)
    refine ⟨h1.1, ?_, ?_⟩
    · rw [h1.2]
      omega
    · rw [h1.2]
      exact tE_le' (tE_le' hp)
  · cases h
    exact ⟨hI.ch, Nat.le_refl _, hp⟩
/-- behind a line without a fault: a house again, and further on -/
theorem linS_ok {H : HS} (hI : HI H) {p : Nat} {a : HS × Nat} (hp : p ≤ n) (h : linS u n H p = .inr a) : HI a.1 ∧ p < a.2 ∧ a.2 ≤ n := by
  have g := tE_ge' (u := u) (n := n)
  have fin : ∀ {q r : Nat}, p ≤ q → q ≤ n → endS u n q = .inr r → p < r ∧ r ≤ n := fun {q r} h1 h2 h3 => by
    have h4 := endS_ok h3
    have h5 := tE_gt h4.1
    rw [h4.2]
    exact ⟨by omega, tE_le' h2⟩
  have g0 := g p
  have g1 : tEe u n p ≤ n := tE_le' hp
  unfold linS at h
  split at h
  · unfold perS at h
    split at h
    · cases h
    · rename_i hq
      obtain ⟨b, e1, h⟩ := bnd_ok h
      obtain ⟨c, e2, h⟩ := bnd_ok h
      obtain ⟨d, e3, h⟩ := bnd_ok h
      cases h
      have k1 := numS_ok e1
      have g2 := g (tEe u n p)
      have g3 : b.2 ≤ n := by rw [k1.2.2]; exact tE_le' g1
      have k2 := drS_ok hI g3 e2
      have k3 := fin (by omega) k2.2.2 e3
      exact ⟨HI_P hI (by omega) k1.2.1 k2.1, k3⟩
  · split at h
    · unfold worS at h
      split at h
      · cases h
      · rename_i hq
        obtain ⟨b, e1, h⟩ := bnd_ok h
        obtain ⟨c, e2, h⟩ := bnd_ok h
        obtain ⟨d, e3, h⟩ := bnd_ok h
        cases h
        have k1 := numS_ok e1
        have k2 := numS_ok e2
        have g2 := g (tEe u n p)
        have g3 : b.2 ≤ n := by rw [k1.2.2]; exact tE_le' g1
        have g4 := g b.2
        have g5 : c.2 ≤ n := by rw [k2.2.2]; exact tE_le' g3
        have k3 := fin (by omega) g5 e3
        exact ⟨HI_W hI (by omega) k1.2.1 k2.1 (by omega) (by omega), k3⟩
    · split at h
      · unfold canS at h
        obtain ⟨b, e1, h⟩ := bnd_ok h
        obtain ⟨c, e2, h⟩ := bnd_ok h
        obtain ⟨d, e3, h⟩ := bnd_ok h
        obtain ⟨x, e4, h⟩ := bnd_ok h
        cases h
        have k1 := idS_ok e1
        have k2 := newS_ok e2
        have k3 := numS_ok e3
        have g2 := g (tEe u n p)
        have g3 : b.2 ≤ n := by rw [k1.2]; exact tE_le' g1
        have g4 := g b.2
        have g5 : c.2 ≤ n := by rw [k2.2.1]; exact tE_le' g3
        have g6 := g c.2
        have g7 : d.2 ≤ n := by rw [k3.2.2]; exact tE_le' g5
        have k4 := fin (by omega) g7 e4
        exact ⟨HI_S hI k1.1 k2.1 k3.1 k3.2.1, k4⟩
      · split at h
        · unfold leaS at h
          split at h
          · cases h
          · rename_i hq
            obtain ⟨b, e1, h⟩ := bnd_ok h
            obtain ⟨c, e2, h⟩ := bnd_ok h
            obtain ⟨d, e3, h⟩ := bnd_ok h
            obtain ⟨x, e4, h⟩ := bnd_ok h
            obtain ⟨y, e5, h⟩ := bnd_ok h
            cases h
            have k1 := idS_ok e1
            have k2 := newS_ok e2
            have k3 := numS_ok e3
            have k4 := numS_ok e4
            have g2 := g (tEe u n p)
            have g3 : b.2 ≤ n := by rw [k1.2]; exact tE_le' g1
            have g4 := g b.2
            have g5 : c.2 ≤ n := by rw [k2.2.1]; exact tE_le' g3
            have g6 := g c.2
            have g7 : d.2 ≤ n := by rw [k3.2.2]; exact tE_le' g5
            have g8 := g d.2
            have g9 : x.2 ≤ n := by rw [k4.2.2]; exact tE_le' g7
            have k5 := fin (by omega) g9 e5
            exact ⟨HI_T hI (by omega) k1.1 k2.1 ⟨k3.1, k3.2.1⟩ ⟨k4.1, k4.2.1⟩, k5⟩
        · split at h
          · unfold forS at h
            split at h
            · cases h
            · obtain ⟨b, e1, h⟩ := bnd_ok h
              obtain ⟨c, e2, h⟩ := bnd_ok h
              cases h
              have k1 := numS_ok e1
              have g2 := g (tEe u n p)
              have g3 : b.2 ≤ n := by rw [k1.2.2]; exact tE_le' g1
              have k3 := fin (by omega) g3 e2
              exact ⟨HI_F hI k1.2.1, k3⟩
          · cases h
/-- more lines than bytes make no difference -/
theorem parS_fuel {H : HS} {p : Nat} (hp : p ≤ n) (hI : HI H) : ∀ d e, n < p + d → n < p + e → parS u n d H p = parS u n e H p := by
  intro d
  induction d generalizing H p with
  | zero => intro e h1; omega
  | succ d ih =>
    intro e h1 h2
    cases e with
    | zero => omega
    | succ e =>
      show (if tK u n p = 0 then _ else bnd (linS u n H p) fun a => parS u n d a.1 a.2) = (if tK u n p = 0 then _ else bnd (linS u n H p) fun a => parS u n e a.1 a.2)
      by_cases k : tK u n p = 0
      · rw [if_pos k, if_pos k]
      · rw [if_neg k, if_neg k]
        cases hl : linS u n H p with
        | inl f => rfl
        | inr a =>
          have q := linS_ok hI hp hl
          exact ih q.2.2 q.1 e (by omega) (by omega)
end SPT
