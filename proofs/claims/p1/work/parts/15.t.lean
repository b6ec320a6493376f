def eqS : aS → aS → Bool
  | .inl a, .inl b => Nat.beq a b
  | .inr a, .inr b => decide (a.1 = b.1) && Nat.beq a.2 b.2
  | _, _ => false
theorem eqS_spec : ∀ {a b : aS}, eqS a b = true → a = b
  | .inl a, .inl b, h => by rw [Nat.eq_of_beq_eq_true h]
  | .inr a, .inr b, h => by
    simp only [eqS, Bool.and_eq_true, decide_eq_true_eq] at h
    obtain ⟨h1, h2⟩ := h
    have h3 := Nat.eq_of_beq_eq_true h2
    obtain ⟨a1, a2⟩ := a
    obtain ⟨b1, b2⟩ := b
    simp only at h1 h3
    rw [h1, h3]
  | .inl _, .inr _, h => by cases h
  | .inr _, .inl _, h => by cases h
def eqL {α : Type} (f : α → α → Bool) : List α → List α → Bool
  | [], [] => true
  | a :: l, b :: r => f a b && eqL f l r
  | _, _ => false
theorem eqL_spec {α : Type} {f : α → α → Bool} (hf : ∀ {a b : α}, f a b = true → a = b) : ∀ {l r : List α}, eqL f l r = true → l = r
  | [], [], _ => rfl
  | a :: l, b :: r, h => by
    simp only [eqL, Bool.and_eq_true] at h
    rw [hf h.1, eqL_spec hf h.2]
  | [], _ :: _, h => by cases h
  | _ :: _, [], h => by cases h
def eq3 {α : Type} (f : α → α → Bool) (a b : Nat × Nat × α) : Bool := Nat.beq a.1 b.1 && (Nat.beq a.2.1 b.2.1 && f a.2.2 b.2.2)
theorem eq3_spec {α : Type} {f : α → α → Bool} (hf : ∀ {a b : α}, f a b = true → a = b) {a b : Nat × Nat × α} (h : eq3 f a b = true) : a = b := by
  obtain ⟨a1, a2, a3⟩ := a
  obtain ⟨b1, b2, b3⟩ := b
  simp only [eq3, Bool.and_eq_true] at h
  obtain ⟨h1, h2, h3⟩ := h
  rw [Nat.eq_of_beq_eq_true h1, Nat.eq_of_beq_eq_true h2, hf h3]
/-- does a run end so -/
def eqR (x : Option (aR × aH × gM × Nat × Nat)) (v : Option Value) (sh : aH) (m : gM) (c s : Nat) : Bool := match x with
  | some (.inl v', sh', m', c', s') => decide (v' = v) && (decide (sh'.1 = sh.1) && (eqL eqS sh'.2 sh.2 && (eqL (eq3 (fun a b => decide (a = b))) m'.1 m.1 && (eqL (eq3 (fun a b => decide (a = b))) m'.2.1 m.2.1 && (eqL (eq3 Nat.beq) m'.2.2 m.2.2 && (Nat.beq c' c && Nat.beq s' s))))))
  | _ => false
theorem eqR_spec {x : Option (aR × aH × gM × Nat × Nat)} {v : Option Value} {sh : aH} {m : gM} {c s : Nat} (h : eqR x v sh m c s = true) : x = some (.inl v, sh, m, c, s) := by
  unfold eqR at h
  split at h
  · next v' sh' m' c' s' =>
      simp only [Bool.and_eq_true, decide_eq_true_eq] at h
      obtain ⟨h1, h2, h3, h4, h5, h6, h7, h8⟩ := h
      obtain ⟨a1, a2⟩ := sh
      obtain ⟨b1, b2⟩ := sh'
      obtain ⟨d1, d2, d3⟩ := m
      obtain ⟨e1, e2, e3⟩ := m'
      have g2 : b1 = a1 := h2
      have g3 : b2 = a2 := eqL_spec eqS_spec h3
      have g4 : e1 = d1 := eqL_spec (eq3_spec (fun h => by simpa using h)) h4
      have g5 : e2 = d2 := eqL_spec (eq3_spec (fun h => by simpa using h)) h5
      have g6 : e3 = d3 := eqL_spec (eq3_spec Nat.eq_of_beq_eq_true) h6
      rw [h1, g2, g3, g4, g5, g6, Nat.eq_of_beq_eq_true h7, Nat.eq_of_beq_eq_true h8]
  · cases h

set_option maxRecDepth 100000 in
theorem tt_1 : eqR (ax pg 12 3 0 [(0, .ref 0)] [] (true, [.inl 7]) ([], [], []) 0 0) none (true, [.inl 7, .inr (.byte, 800)]) ([], [], [(0, 0, 2)]) 1 800 = true := by decide +kernel
set_option maxRecDepth 100000 in
theorem tt_2 : eqR (ax pg 56 4 0 [(0, .ref 0)] [] (true, [.inl 1]) ([], [], []) 0 0) none (true, [.inl 1, .inr (.int, 6), .inr (.int, 6), .inr (.int, 6), .inr (.int, 6), .inr (.int, 8), .inr (.int, 8), .inr (.int, 8), .inr (.int, 48), .inr (.int, 8), .inr (.int, 8), .inr (.int, 8), .inr (.int, 8)]) ([], [], [(0, 15, 13), (0, 14, 12), (0, 13, 11), (0, 12, 10), (0, 11, 9), (0, 10, 8), (0, 9, 7), (0, 8, 6), (0, 7, 5), (0, 6, 4), (0, 5, 3), (0, 4, 2)]) 12 128 = true := by decide +kernel
set_option maxRecDepth 100000 in
theorem tt_3 : eqR (ax pg 2956 0 0 [(0, .ref 0)] [] (true, [.inl 9]) ([], [], []) 0 0) none (true, [.inl 9, .inl 4, .inl 7, .inr (.byte, 800), .inl 1, .inr (.int, 6), .inr (.int, 6), .inr (.int, 6), .inr (.int, 6), .inr (.int, 8), .inr (.int, 8), .inr (.int, 8), .inr (.int, 48), .inr (.int, 8), .inr (.int, 8), .inr (.int, 8), .inr (.int, 8), .inl 1, .inr (.int, 6), .inr (.int, 6), .inr (.int, 6), .inr (.int, 6), .inr (.int, 8), .inr (.int, 8), .inr (.int, 8), .inr (.int, 48), .inr (.int, 8), .inr (.int, 8), .inr (.int, 8), .inr (.int, 8), .inl 6, .inr (.int, 256), .inr (.int, 256), .inl 3, .inr (.long, 256), .inr (.long, 9), .inl 5, .inr (.long, 256), .inr (.long, 256), .inr (.long, 8), .inl 2, .inl 3, .inr (.long, 256), .inr (.long, 9), .inr (.int, 6), .inl 0, .inr (.int, 7), .inr (.int, 7), .inr (.int, 8), .inl 8, .inr (.int, 200), .inr (.int, 48), .inr (.int, 6), .inl 8, .inr (.int, 200), .inr (.int, 48), .inr (.int, 6), .inr (.int, 3)]) ([(40, 3, (-2)), (40, 2, (-2)), (0, 9, (-1)), (48, 7, (-1)), (48, 6, (-1)), (48, 5, (-1)), (48, 4, (-1)), (48, 3, (-1)), (48, 2, (-1)), (48, 1, (-1)), (48, 0, (-1)), (0, 13, (-1))], [(35, 0, 1), (34, 0, 1)], [(0, 12, 58), (0, 11, 54), (53, 5, 57), (53, 4, 56), (53, 3, 55), (0, 10, 50), (49, 5, 53), (49, 4, 52), (49, 3, 51), (0, 8, 49), (0, 7, 46), (45, 1, 48), (45, 0, 47), (0, 6, 41), (40, 1, 45), (40, 0, 42), (41, 1, 44), (41, 0, 43), (0, 5, 37), (36, 2, 40), (36, 1, 39), (36, 0, 38), (0, 4, 34), (33, 1, 36), (33, 0, 35), (0, 3, 31), (30, 1, 33), (30, 0, 32), (0, 2, 18), (17, 15, 30), (17, 14, 29), (17, 13, 28), (17, 12, 27), (17, 11, 26), (17, 10, 25), (17, 9, 24), (17, 8, 23), (17, 7, 22), (17, 6, 21), (17, 5, 20), (17, 4, 19), (0, 1, 5), (4, 15, 17), (4, 14, 16), (4, 13, 15), (4, 12, 14), (4, 11, 13), (4, 10, 12), (4, 9, 11), (4, 8, 10), (4, 7, 9), (4, 6, 8), (4, 5, 7), (4, 4, 6), (0, 0, 2), (1, 0, 3), (2, 0, 4)]) 57 3227 = true := by decide +kernel
