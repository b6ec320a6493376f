/-! rows for walks that are laid by a program: closed calls are runs, stretches are runs to a place, branches on unknown numbers are rules -/
theorem ax_run {l : Launch} (hl0 : l.stackTraces = false) {mk : Nat → Nat → Bool} (ov : Nat → Nat → Int32) {nf jd c s : Nat} {av : List Value} {sh sh' : aH} {m m' : gM} {v : Option Value} (h : eqR (ax pg mk nf jd 0 (lv_args 0 av) [] sh m 0 0) v sh' m' c s = true) (ho : okI (pI pg jd)) (hlen : (lg_sl av).length ≤ iL (pI pg jd)) :
    AC l (pI pg jd) (fun r sh2 M2 => r = .inl v ∧ sh2 = sh' ∧ M2 = dO ov mk m') c s av sh (dO ov mk m) := by
  obtain ⟨dc, ds, e1, e2, k⟩ := ax_AC (ov := ov) hl0 (ax_ok pg_ok hl0 nf) ho (eqR_spec h) hlen
  rw [Nat.zero_add] at e1 e2
  subst e1
  subst e2
  exact k
section LW
variable {l : Launch} {Γ : aG → Prop} {mk : Nat → Nat → Bool} {ov : Nat → Nat → Int32} {P P1 : aP} {kc ks kc1 ks1 id pc n jd np nf : Nat} {lv lv' : List (Nat × Value)} {st st' as : List Value} {sh sh' : aH} {m m' : gM} {M : aM} {v : Option Value}
/-- an instruction's row -/
theorem LW.d {i : Instr} {len : Nat} (h : pT pg id pc = some (i, len)) : decode (iC (pI pg id)) pc = .ok (i, len) := pg_ok.1 _ _ _ _ h
/-- a stretch -/
theorem LW.u (hl0 : l.stackTraces = false) {sc : aSc} (hsc : ∀ G, Γ G → scOk sc G) {stop k pc' : Nat} (h : aU pg sc mk nf id stop k pc lv st sh m 0 0 = some (pc', lv', st', sh', m', kc1, ks1)) (kk : AW (l, Γ) (pI pg id) P kc ks pc' lv' st' sh' (dO ov mk m')) : AW (l, Γ) (pI pg id) P (kc + kc1) (ks + ks1) pc lv st sh (dO ov mk m) := by
  obtain ⟨dc, ds, e1, e2, hk⟩ := aU_ok (ov := ov) pg_ok hl0 _ _ _ _ _ _ _ _ _ h
  have e1 : kc1 = 0 + dc := e1
  have e2 : ks1 = 0 + ds := e2
  rw [Nat.zero_add] at e1 e2
  subst e1
  subst e2
  exact hk Γ P kc ks hsc kk
/-- the rest of a method that reads the script -/
theorem LW.fin (hl0 : l.stackTraces = false) {sc : aSc} (hsc : ∀ G, Γ G → scOk sc G) {k : Nat} (h : eqR (aV pg sc mk nf id k pc lv st sh m 0 0) v sh' m' kc ks = true) (hP : P (.inl v) sh' (dO ov mk m')) : AW (l, Γ) (pI pg id) P kc ks pc lv st sh (dO ov mk m) := by
  obtain ⟨dc, ds, e1, e2, hk⟩ := aV_ok (ov := ov) pg_ok hl0 _ _ _ _ _ _ _ _ _ _ _ _ _ (eqR_spec h)
  rw [Nat.zero_add] at e1 e2
  subst e1
  subst e2
  exact hk Γ P hsc hP
/-- the rest of a method -/
theorem LW.e (hl0 : l.stackTraces = false) {k : Nat} (h : eqR (ax pg mk k id pc lv st sh m 0 0) v sh' m' kc ks = true) (hP : P (.inl v) sh' (dO ov mk m')) : AW (l, Γ) (pI pg id) P kc ks pc lv st sh (dO ov mk m) := by
  obtain ⟨-, dc, ds, e1, e2, hk⟩ := ax_ok (ov := ov) pg_ok hl0 k _ _ _ _ _ _ _ _ _ _ _ _ _ (eqR_spec h)
  rw [Nat.zero_add] at e1 e2
  subst e1
  subst e2
  exact hk Γ P hP
/-- a call by its contract -/
theorem LW.cV {i : Nat} (hT : pT pg id pc = some (.invokevirtual n, 3)) (hM : pM pg (pO pg id) n = some (jd, 0, np)) (hi : shO sh i (pN pg jd) = true) (hnp : as.length = np) (hr : room pg id jd = true) (hst : Nat.ble (cats st) 8 = true) (hc : AC l (pI pg jd) P1 kc1 ks1 (.ref i :: as) sh M)
    (kr : ∀ v sh' M', P1 (.inl v) sh' M' → AW (l, Γ) (pI pg id) P kc ks (pc + 3) lv (v.toList ++ st) sh' M') (kx : ∀ X sh' M', P1 (.inr X) sh' M' → AX (l, Γ) (pI pg id) P kc ks pc lv sh' M' X) : AW (l, Γ) (pI pg id) P (kc + kc1) (ks + ks1) pc lv (as.reverse ++ .ref i :: st) sh M := by
  obtain ⟨w1, w2, ⟨w, hq, hqc⟩, w4⟩ := (pg_ok.2.2.1 _ _ _ _ _ hM).1 rfl
  exact AW.callV (l := (l, Γ)) (mj := pI pg jd) (LW.d hT) (shO_spec hi) hq hqc w1 ⟨by rw [hnp]; exact w2, room_spec hr⟩ (Nat.le_of_ble_eq_true hst) hc kr kx
theorem LW.cS (hT : pT pg id pc = some (.invokestatic n, 3)) (hM : pM pg (pO pg id) n = some (jd, 1, np)) (hnp : as.length = np) (hr : room pg id jd = true) (hst : Nat.ble (cats st) 8 = true) (hc : AC l (pI pg jd) P1 kc1 ks1 as sh M)
    (kr : ∀ v sh' M', P1 (.inl v) sh' M' → AW (l, Γ) (pI pg id) P kc ks (pc + 3) lv (v.toList ++ st) sh' M') (kx : ∀ X sh' M', P1 (.inr X) sh' M' → AX (l, Γ) (pI pg id) P kc ks pc lv sh' M' X) : AW (l, Γ) (pI pg id) P (kc + kc1) (ks + ks1) pc lv (as.reverse ++ st) sh M := by
  obtain ⟨w1, w2, w4⟩ := (pg_ok.2.2.1 _ _ _ _ _ hM).2.1 rfl
  exact AW.callS (l := (l, Γ)) (mj := pI pg jd) (LW.d hT) w1 ⟨by rw [hnp]; exact w2, room_spec hr⟩ (Nat.le_of_ble_eq_true hst) hc kr kx
end LW
/-- masked slots by a list -/
def mL2 (t : List (Nat × Nat)) (a c : Nat) : Bool := match t with
  | [] => false
  | q :: r => (Nat.beq q.1 a && Nat.beq q.2 c) || mL2 r a c
theorem dO_mask (ov : Nat → Nat → Int32) (t : List (Nat × Nat)) (m : gM) (i k : Nat) (x : Int32) : aset (dO ov (mL2 t) m) i k (.int x) = dO (upd2 ov i k x) (mL2 ((i, k) :: t)) m := by
  simp only [aset, dO]
  congr 1
  funext a c
  simp only [upd2, mL2]
  by_cases h1 : a = i
  · subst h1
    by_cases h2 : c = k
    · subst h2
      simp
    · have h3 : Nat.beq k c = false := by
        rw [Bool.eq_false_iff]
        intro h
        exact h2 (Nat.eq_of_beq_eq_true h).symm
      simp [h2, h3]
  · have h3 : Nat.beq i a = false := by
      rw [Bool.eq_false_iff]
      intro h
      exact h1 (Nat.eq_of_beq_eq_true h).symm
    simp [h1, h3]
/-- does a stretch end so -/
def eqV (a b : Nat × Value) : Bool := Nat.beq a.1 b.1 && decide (a.2 = b.2)
theorem eqV_spec {a b : Nat × Value} (h : eqV a b = true) : a = b := by
  obtain ⟨a1, a2⟩ := a
  obtain ⟨b1, b2⟩ := b
  simp only [eqV, Bool.and_eq_true, decide_eq_true_eq] at h
  rw [Nat.eq_of_beq_eq_true h.1, h.2]
def eqK (x : Option aK) (pc : Nat) (lv : List (Nat × Value)) (st : List Value) (sh : aH) (m : gM) (c s : Nat) : Bool := match x with
  | some (pc', lv', st', sh', m', c', s') => Nat.beq pc' pc && (eqL eqV lv' lv && (eqL (fun a b => decide (a = b)) st' st && (decide (sh'.1 = sh.1) && (eqL eqS sh'.2 sh.2 && (eqL (eq3 (fun a b => decide (a = b))) m'.1 m.1 && (eqL (eq3 (fun a b => decide (a = b))) m'.2.1 m.2.1 && (eqL (eq3 Nat.beq) m'.2.2 m.2.2 && (Nat.beq c' c && Nat.beq s' s))))))))
  | none => false
theorem eqK_spec {x : Option aK} {pc : Nat} {lv : List (Nat × Value)} {st : List Value} {sh : aH} {m : gM} {c s : Nat} (h : eqK x pc lv st sh m c s = true) : x = some (pc, lv, st, sh, m, c, s) := by
  unfold eqK at h
  split at h
  · next pc' lv' st' sh' m' c' s' =>
      simp only [Bool.and_eq_true, decide_eq_true_eq] at h
      obtain ⟨h1, h9, h10, h2, h3, h4, h5, h6, h7, h8⟩ := h
      obtain ⟨a1, a2⟩ := sh
      obtain ⟨b1, b2⟩ := sh'
      obtain ⟨d1, d2, d3⟩ := m
      obtain ⟨e1, e2, e3⟩ := m'
      have g2 : b1 = a1 := h2
      have g3 : b2 = a2 := eqL_spec eqS_spec h3
      have g4 : e1 = d1 := eqL_spec (eq3_spec (fun h => by simpa using h)) h4
      have g5 : e2 = d2 := eqL_spec (eq3_spec (fun h => by simpa using h)) h5
      have g6 : e3 = d3 := eqL_spec (eq3_spec Nat.eq_of_beq_eq_true) h6
      rw [Nat.eq_of_beq_eq_true h1, eqL_spec eqV_spec h9, eqL_spec (fun h => by simpa using h) h10, g2, g3, g4, g5, g6, Nat.eq_of_beq_eq_true h7, Nat.eq_of_beq_eq_true h8]
  · cases h
