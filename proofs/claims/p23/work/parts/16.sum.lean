/-! how runs and stretches end -/
def eqS : aS → aS → Bool
  | .inl a, .inl b => Nat.beq a b
  | .inr a, .inr b => decide (a.1 = b.1) && Nat.beq a.2 b.2
  | _, _ => false
theorem eqS_spec : ∀ {a b : aS}, eqS a b = true → a = b
  | .inl a, .inl b, h => by rw [Nat.eq_of_beq_eq_true h]
  | .inr a, .inr b, h => by
    simp only [eqS, Bool.and_eq_true, decide_eq_true_eq] at h
    obtain ⟨h1, h2⟩ := h
    have h3 := Nat.eq_of_beq_eq_true h2
    obtain ⟨a1, a2⟩ := a
    obtain ⟨b1, b2⟩ := b
    simp only at h1 h3
    rw [h1, h3]
  | .inl _, .inr _, h => by cases h
  | .inr _, .inl _, h => by cases h
def eqL {α : Type} (f : α → α → Bool) : List α → List α → Bool
  | [], [] => true
  | a :: l, b :: r => f a b && eqL f l r
  | _, _ => false
theorem eqL_spec {α : Type} {f : α → α → Bool} (hf : ∀ {a b : α}, f a b = true → a = b) : ∀ {l r : List α}, eqL f l r = true → l = r
  | [], [], _ => rfl
  | a :: l, b :: r, h => by
    simp only [eqL, Bool.and_eq_true] at h
    rw [hf h.1, eqL_spec hf h.2]
  | [], _ :: _, h => by cases h
  | _ :: _, [], h => by cases h
def eq3 {α : Type} (f : α → α → Bool) (a b : Nat × Nat × α) : Bool := Nat.beq a.1 b.1 && (Nat.beq a.2.1 b.2.1 && f a.2.2 b.2.2)
theorem eq3_spec {α : Type} {f : α → α → Bool} (hf : ∀ {a b : α}, f a b = true → a = b) {a b : Nat × Nat × α} (h : eq3 f a b = true) : a = b := by
  obtain ⟨a1, a2, a3⟩ := a
  obtain ⟨b1, b2, b3⟩ := b
  simp only [eq3, Bool.and_eq_true] at h
  obtain ⟨h1, h2, h3⟩ := h
  rw [Nat.eq_of_beq_eq_true h1, Nat.eq_of_beq_eq_true h2, hf h3]
/-- does a stretch end so -/
def eqV (a b : Nat × Value) : Bool := Nat.beq a.1 b.1 && decide (a.2 = b.2)
theorem eqV_spec {a b : Nat × Value} (h : eqV a b = true) : a = b := by
  obtain ⟨a1, a2⟩ := a
  obtain ⟨b1, b2⟩ := b
  simp only [eqV, Bool.and_eq_true, decide_eq_true_eq] at h
  rw [Nat.eq_of_beq_eq_true h.1, h.2]
def eqK (x : Option aK) (pc : Nat) (lv : List (Nat × Value)) (st : List Value) (sh : aH) (m : gM) (c s : Nat) : Bool := match x with
  | some (pc', lv', st', sh', m', c', s') => Nat.beq pc' pc && (eqL eqV lv' lv && (eqL (fun a b => decide (a = b)) st' st && (decide (sh'.1 = sh.1) && (eqL eqS sh'.2 sh.2 && (eqL (eq3 (fun a b => decide (a = b))) m'.1 m.1 && (eqL (eq3 (fun a b => decide (a = b))) m'.2.1 m.2.1 && (eqL (eq3 Nat.beq) m'.2.2 m.2.2 && (Nat.beq c' c && Nat.beq s' s))))))))
  | none => false
theorem eqK_spec {x : Option aK} {pc : Nat} {lv : List (Nat × Value)} {st : List Value} {sh : aH} {m : gM} {c s : Nat} (h : eqK x pc lv st sh m c s = true) : x = some (pc, lv, st, sh, m, c, s) := by
  unfold eqK at h
  split at h
  · next pc' lv' st' sh' m' c' s' =>
      simp only [Bool.and_eq_true, decide_eq_true_eq] at h
      obtain ⟨h1, h9, h10, h2, h3, h4, h5, h6, h7, h8⟩ := h
      obtain ⟨a1, a2⟩ := sh
      obtain ⟨b1, b2⟩ := sh'
      obtain ⟨d1, d2, d3⟩ := m
      obtain ⟨e1, e2, e3⟩ := m'
      have g2 : b1 = a1 := h2
      have g3 : b2 = a2 := eqL_spec eqS_spec h3
      have g4 : e1 = d1 := eqL_spec (eq3_spec (fun h => by simpa using h)) h4
      have g5 : e2 = d2 := eqL_spec (eq3_spec (fun h => by simpa using h)) h5
      have g6 : e3 = d3 := eqL_spec (eq3_spec Nat.eq_of_beq_eq_true) h6
      rw [Nat.eq_of_beq_eq_true h1, eqL_spec eqV_spec h9, eqL_spec (fun h => by simpa using h) h10, g2, g3, g4, g5, g6, Nat.eq_of_beq_eq_true h7, Nat.eq_of_beq_eq_true h8]
  · cases h

/-- a stretch, then the rest -/
theorem eqK_ok {l : Launch} {g : aPg} {sc : aSc} {xs : Nat → Int32} {Γ : aG → Prop} {P : aP} {nf id stop n pc pc' kc ks c s : Nat} {lv lv' : List (Nat × Value)} {st st' : List Value} {sh sh' : aH} {m m' : gM} (G : pgOk g) (hl0 : l.stackTraces = false) (hsc : ∀ G, Γ G → scOk sc xs G) (h : eqK (aU g sc nf id stop n pc lv st sh m 0 0) pc' lv' st' sh' m' c s = true) (k : AW (l, Γ) (pI g id) P kc ks pc' lv' st' sh' (den xs m')) : AW (l, Γ) (pI g id) P (kc + c) (ks + s) pc lv st sh (den xs m) := by
  obtain ⟨dc, ds, e1, e2, hk⟩ := aU_ok (xs := xs) G hl0 _ _ _ _ _ _ _ _ _ (eqK_spec h)
  have e1 : c = 0 + dc := e1
  have e2 : s = 0 + ds := e2
  rw [Nat.zero_add] at e1 e2
  subst e1
  subst e2
  exact hk Γ P kc ks hsc k
/-- does a run end with 1, within this room -/
def okE (x : Option (aR × aH × gM × Nat × Nat)) (kc ks : Nat) : Bool := match x with
  | some (.inl (some (.int v)), _, _, c, s) => decide (v = 1) && (Nat.ble c kc && Nat.ble s ks)
  | _ => false
theorem okE_ok {l : Launch} {g : aPg} {sc : aSc} {xs : Nat → Int32} {Γ : aG → Prop} {P : aP} {n id pc kc ks : Nat} {lv : List (Nat × Value)} {st : List Value} {sh : aH} {m : gM} (G : pgOk g) (hl0 : l.stackTraces = false) (hsc : ∀ G, Γ G → scOk sc xs G) (h : okE (ax g sc n id pc lv st sh m 0 0) kc ks = true) (hP : ∀ sh M, P (.inl (some (.int 1))) sh M) : AW (l, Γ) (pI g id) P kc ks pc lv st sh (den xs m) := by
  unfold okE at h
  split at h
  · next v sh' m' c s hx =>
      simp only [Bool.and_eq_true, decide_eq_true_eq] at h
      obtain ⟨rfl, h1, h2⟩ := h
      have h1 := Nat.le_of_ble_eq_true h1
      have h2 := Nat.le_of_ble_eq_true h2
      obtain ⟨dc, ds, e1, e2, hk⟩ := ax_ok (xs := xs) G hl0 n _ _ _ _ _ _ _ _ _ _ _ _ _ hx
      have h9 := hk Γ P 0 0 hsc (hP _ _)
      exact AW.mono (by omega) (by omega) h9
  · cases h
