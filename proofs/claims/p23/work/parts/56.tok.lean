/-! TOKENS, as the document tells them: u is the byte at a place (0 to 255), n the text's length -/
def isB (u : Nat) : Bool := Nat.beq u 32 || Nat.beq u 10
def isLt (u : Nat) : Bool := Nat.ble 97 u && Nat.ble u 122
def isDg (u : Nat) : Bool := Nat.ble 48 u && Nat.ble u 57
/-- the first place from p on where f fails, or the text ends -/
def scnF (f : Nat → Bool) (n : Nat) : Nat → Nat → Nat
  | 0, p => p
  | d + 1, p => if p < n ∧ f p = true then scnF f n d (p + 1) else p
def scn (f : Nat → Bool) (n p : Nat) : Nat := scnF f n (n - p) p
theorem scn_go {f : Nat → Bool} {n p : Nat} (h : p < n) (hf : f p = true) : scn f n p = scn f n (p + 1) := by
  unfold scn
  rw [show n - p = (n - (p + 1)) + 1 by omega]
  show (if p < n ∧ f p = true then scnF f n (n - (p + 1)) (p + 1) else p) = _
  rw [if_pos ⟨h, hf⟩]
theorem scn_no {f : Nat → Bool} {n p : Nat} (h : ¬ (p < n ∧ f p = true)) : scn f n p = p := by
  unfold scn
  cases n - p with
  | zero => rfl
  | succ d =>
    show (if p < n ∧ f p = true then _ else p) = p
    rw [if_neg h]
theorem scn_ind {f : Nat → Bool} {n : Nat} {C : Nat → Prop} (h1 : ∀ p, p < n → f p = true → C (p + 1) → C p) (h2 : ∀ p, ¬ (p < n ∧ f p = true) → C p) : ∀ p, C p := by
  have h : ∀ d p, n - p ≤ d → C p := by
    intro d
    induction d with
    | zero =>
      intro p hp
      exact h2 p (fun h => by omega)
    | succ d ih =>
      intro p hp
      by_cases e : p < n ∧ f p = true
      · exact h1 p e.1 e.2 (ih (p + 1) (by omega))
      · exact h2 p e
  exact fun p => h (n - p) p (Nat.le_refl _)
theorem scn_ge {f : Nat → Bool} {n : Nat} : ∀ p, p ≤ scn f n p := scn_ind (fun p h hf ih => by rw [scn_go h hf]; omega) (fun p h => by rw [scn_no h]; omega)
theorem scn_le {f : Nat → Bool} {n : Nat} : ∀ p, p ≤ n → scn f n p ≤ n := scn_ind (f := f) (fun p h hf ih _ => by rw [scn_go h hf]; exact ih (by omega)) (fun p h hp => by rw [scn_no h]; exact hp)
theorem scn_in {f : Nat → Bool} {n : Nat} : ∀ p i, p ≤ i → i < scn f n p → i < n ∧ f i = true := scn_ind (f := f) (fun p h hf ih i h1 h2 => by
  rw [scn_go h hf] at h2
  by_cases e : i = p
  · subst e
    exact ⟨h, hf⟩
  · exact ih i (by omega) h2) (fun p h i h1 h2 => by rw [scn_no h] at h2; omega)
theorem scn_out {f : Nat → Bool} {n : Nat} : ∀ p, ¬ (scn f n p < n ∧ f (scn f n p) = true) := scn_ind (f := f) (fun p h hf ih => by rw [scn_go h hf]; exact ih) (fun p h => by rw [scn_no h]; exact h)
theorem scn_eq {f g : Nat → Bool} {n : Nat} (h : ∀ i, i < n → f i = g i) : ∀ p, scn f n p = scn g n p := scn_ind (f := f) (fun p hp hf ih => by rw [scn_go hp hf, ih, ← scn_go hp (by rw [← h p hp]; exact hf)]) (fun p hp => by
  rw [scn_no hp, scn_no (fun e => hp ⟨e.1, by rw [h p e.1]; exact e.2⟩)])
/-- a token from p on: what it is (0 END, 1 WORD, 2 NUMBER, 3 SIGN, 4 none), its first byte, the byte behind it -/
def tkS (u : Nat → Nat) (n p : Nat) : Nat := scn (fun i => isB (u i)) n p
def tkK (u : Nat → Nat) (n s : Nat) : Nat := if s < n then (if isLt (u s) = true then 1 else if isDg (u s) = true then 2 else if u s = 59 then 3 else 4) else 0
def tkE (u : Nat → Nat) (n s : Nat) : Nat := if s < n then (if isLt (u s) = true then scn (fun i => isLt (u i)) n s else if isDg (u s) = true then scn (fun i => isDg (u i)) n s else s + 1) else s
theorem tkS_ge {u : Nat → Nat} {n : Nat} (p : Nat) : p ≤ tkS u n p := scn_ge p
theorem tkS_le {u : Nat → Nat} {n p : Nat} (h : p ≤ n) : tkS u n p ≤ n := scn_le p h
theorem tkE_ge {u : Nat → Nat} {n s : Nat} : s ≤ tkE u n s := by
  unfold tkE
  split
  · split
    · exact scn_ge s
    · split
      · exact scn_ge s
      · omega
  · omega
theorem tkE_le {u : Nat → Nat} {n s : Nat} (h : s ≤ n) : tkE u n s ≤ n := by
  unfold tkE
  split
  · split
    · exact scn_le s h
    · split
      · exact scn_le s h
      · omega
  · exact h
/-- a number's digits -/
def vlF (u : Nat → Nat) (s : Nat) : Nat → Nat
  | 0 => 0
  | k + 1 => vlF u s k * 10 + (u (s + k) - 48)
theorem vlF_lt {u : Nat → Nat} {s : Nat} : ∀ k, (∀ i, i < k → isDg (u (s + i)) = true) → vlF u s k + 1 ≤ 10 ^ k
  | 0, _ => Nat.le_refl 1
  | k + 1, h => by
    have h1 := vlF_lt k (fun i hi => h i (by omega))
    have h2 := h k (by omega)
    rw [isDg, Bool.and_eq_true] at h2
    have h3 := Nat.le_of_ble_eq_true h2.2
    rw [Nat.pow_succ]
    show vlF u s k * 10 + (u (s + k) - 48) + 1 ≤ _
    omega
