/-! one step of the machine with intervals: where it may go on, and that it is right -/
def kh (l : aL) (mi : aI) (P : aP) (kc ks : Nat) (sh : aH) (pr : List Value) (J : aM → Prop) (ν : Nat → Int32) (μ : Nat → Int64) (K : sK) : Prop := ∀ (ν' : Nat → Int32) (μ' : Nat → Int64) (M' : aM), agq pr ν μ ν' μ' → sat ν' μ' M' K.2.2.2 → J M' → AW l mi P kc ks K.1 (lvq ν' μ' K.2.1) (stq ν' μ' K.2.2.1) sh M'
abbrev one (pc : Nat) (lv : List (Nat × Value)) (st : List Value) (S : sS) : Option (List sK) := some [(pc, lv, st, S)]
theorem one_k {l : aL} {mi : aI} {P : aP} {kc ks : Nat} {sh : aH} {pr : List Value} {J : aM → Prop} {ν ν' : Nat → Int32} {μ μ' : Nat → Int64} {M' : aM} {pc : Nat} {lv : List (Nat × Value)} {st : List Value} {S : sS} (k : ∀ K ∈ ([(pc, lv, st, S)] : List sK), kh l mi P kc ks sh pr J ν μ K) (h1 : agq pr ν μ ν' μ') (h2 : sat ν' μ' M' S) (h3 : J M') : AW l mi P kc ks pc (lvq ν' μ' lv) (stq ν' μ' st) sh M' := k _ List.mem_cons_self ν' μ' M' h1 h2 h3
theorem agq.tail {v : Value} {pr : List Value} {ν ν' : Nat → Int32} {μ μ' : Nat → Int64} (h : agq (v :: pr) ν μ ν' μ') : agq pr ν μ ν' μ' := fun w hw => h w (List.mem_cons_of_mem _ hw)
/-- what slots may hold: (cell, an interval for all of a row, or intervals of fields); references that never change -/
abbrev sR : Type := List (Nat × (iI ⊕ List (Nat × iI))) × List (Nat × Nat × Nat)
/-- what may be written: rows, fields -/
abbrev sW : Type := List Nat × List (Nat × Nat)
def wrW (W : sW) (a k : Nat) : Bool := W.1.any (fun b => Nat.beq b a) || W.2.any (fun b => Nat.beq b.1 a && Nat.beq b.2 k)
def rgOk (M : aM) (e : Nat × (iI ⊕ List (Nat × iI))) : Prop := match e.2 with
  | .inl q => ∀ k, inI (M.1 e.1 k) q
  | .inr L => ∀ f ∈ L, inI (M.1 e.1 f.1) f.2
/-- the memory's invariant, and what is unchanged since M0 -/
def Jm (R : sR) (W : sW) (M0 M : aM) : Prop := (∀ e ∈ R.1, rgOk M e) ∧ (∀ e ∈ R.2, M.2.2 e.1 e.2.1 = e.2.2) ∧ (∀ a k, wrW W a k = false → M.1 a k = M0.1 a k) ∧ M.2.2 = M0.2.2
def lkR : List (Nat × iI) → Nat → Option iI
  | [], _ => none
  | e :: r, k => match Nat.beq e.1 k with
    | true => some e.2
    | false => lkR r k
theorem lkR_mem : ∀ {L : List (Nat × iI)} {k : Nat} {q : iI}, lkR L k = some q → (k, q) ∈ L
  | [], _, _, h => by cases h
  | e :: r, k, q, h => by
    unfold lkR at h
    split at h
    · next h1 =>
        cases h
        rw [← Nat.eq_of_beq_eq_true h1]
        exact List.mem_cons_self
    · exact List.mem_cons_of_mem _ (lkR_mem h)
def rgF : List (Nat × (iI ⊕ List (Nat × iI))) → Nat → Nat → Option iI
  | [], _, _ => none
  | e :: r, a, k => match Nat.beq e.1 a with
    | true => (match e.2 with
      | .inl _ => none
      | .inr L => lkR L k)
    | false => rgF r a k
theorem rgF_ok {M : aM} : ∀ {R : List (Nat × (iI ⊕ List (Nat × iI)))} {a k : Nat} {q : iI}, (∀ e ∈ R, rgOk M e) → rgF R a k = some q → inI (M.1 a k) q
  | [], _, _, _, _, h => by cases h
  | e :: r, a, k, q, hR, h => by
    unfold rgF at h
    split at h
    · next h1 =>
        have e1 := Nat.eq_of_beq_eq_true h1
        subst e1
        have h2 := hR e List.mem_cons_self
        unfold rgOk at h2
        split at h
        · cases h
        · next L hL =>
            rw [hL] at h2
            exact h2 _ (lkR_mem h)
    · exact rgF_ok (fun e he => hR e (List.mem_cons_of_mem _ he)) h
def rgA : List (Nat × (iI ⊕ List (Nat × iI))) → Nat → Option iI
  | [], _ => none
  | e :: r, a => match Nat.beq e.1 a with
    | true => (match e.2 with
      | .inl q => some q
      | .inr _ => none)
    | false => rgA r a
theorem rgA_ok {M : aM} : ∀ {R : List (Nat × (iI ⊕ List (Nat × iI)))} {a : Nat} {q : iI}, (∀ e ∈ R, rgOk M e) → rgA R a = some q → ∀ k, inI (M.1 a k) q
  | [], _, _, _, h => by cases h
  | e :: r, a, q, hR, h => by
    unfold rgA at h
    split at h
    · next h1 =>
        have e1 := Nat.eq_of_beq_eq_true h1
        subst e1
        have h2 := hR e List.mem_cons_self
        unfold rgOk at h2
        split at h
        · next q' hq =>
            cases h
            rw [hq] at h2
            exact h2
        · cases h
    · exact rgA_ok (fun e he => hR e (List.mem_cons_of_mem _ he)) h
def rgR : List (Nat × Nat × Nat) → Nat → Nat → Option Nat
  | [], _, _ => none
  | e :: r, a, k => match Nat.beq e.1 a && Nat.beq e.2.1 k with
    | true => some e.2.2
    | false => rgR r a k
theorem rgR_ok {M : aM} : ∀ {R : List (Nat × Nat × Nat)} {a k x : Nat}, (∀ e ∈ R, M.2.2 e.1 e.2.1 = e.2.2) → rgR R a k = some x → M.2.2 a k = x
  | [], _, _, _, _, h => by cases h
  | e :: r, a, k, x, hR, h => by
    unfold rgR at h
    split at h
    · next h1 =>
        rw [Bool.and_eq_true] at h1
        cases h
        have h2 := hR e List.mem_cons_self
        rw [Nat.eq_of_beq_eq_true h1.1, Nat.eq_of_beq_eq_true h1.2] at h2
        exact h2
    · exact rgR_ok (fun e he => hR e (List.mem_cons_of_mem _ he)) h
def lkM : sC → Nat → Nat → Option Value
  | [], _, _ => none
  | e :: r, a, k => match Nat.beq e.1 a && (Nat.beq e.2.1 k && Nat.blt k 1048576) with
    | true => some e.2.2
    | false => lkM r a k
theorem lkM_mem : ∀ {C : sC} {a k : Nat} {v : Value}, lkM C a k = some v → (a, k, v) ∈ C
  | [], _, _, _, h => by cases h
  | e :: r, a, k, v, h => by
    unfold lkM at h
    split at h
    · next h1 =>
        rw [Bool.and_eq_true, Bool.and_eq_true] at h1
        cases h
        rw [← Nat.eq_of_beq_eq_true h1.1, ← Nat.eq_of_beq_eq_true h1.2.1]
        exact List.mem_cons_self
    · exact List.mem_cons_of_mem _ (lkM_mem h)
theorem lkM_lt : ∀ {C : sC} {a k : Nat} {v : Value}, lkM C a k = some v → Nat.blt k 1048576 = true
  | [], _, _, _, h => by cases h
  | e :: r, a, k, v, h => by
    unfold lkM at h
    split at h
    · next h1 =>
        rw [Bool.and_eq_true, Bool.and_eq_true] at h1
        exact h1.2.2
    · exact lkM_lt h
theorem lkM_ok {ν : Nat → Int32} {μ : Nat → Int64} {M : aM} {S : sS} (hs : sat ν μ M S) {a k : Nat} {v : Value} (h : lkM S.2.2.2 a k = some v) : cq ν μ v = .int (M.1 a k) := by
  have h1 := hs.2.2 _ (lkM_mem h)
  simp only at h1
  rw [dx_lt (lkM_lt h)] at h1
  exact h1
/-- one slot more is known -/
def adC (S : sS) (a k : Nat) (w : Value) : sS := (S.1, S.2.1, S.2.2.1, bif Nat.blt k 1048576 then (a, k, w) :: S.2.2.2 else S.2.2.2)
theorem adC_ok {ν : Nat → Int32} {μ : Nat → Int64} {M : aM} {S : sS} (hs : sat ν μ M S) {a k : Nat} {w : Value} (h : cq ν μ w = .int (M.1 a k)) : sat ν μ M (adC S a k w) := by
  unfold adC
  cases hb : Nat.blt k 1048576 with
  | false => exact hs
  | true => exact ⟨hs.1, hs.2.1, List.forall_mem_cons.mpr ⟨by show cq ν μ w = .int (M.1 a (dxC ν k)); rw [dx_lt hb]; exact h, hs.2.2⟩⟩
/-- reads at unknown places -/
def lkY : sC → Nat → Nat → Option Value
  | [], _, _ => none
  | e :: r, a, u => match Nat.beq e.1 a && Nat.beq e.2.1 (1048576 + u) with
    | true => some e.2.2
    | false => lkY r a u
theorem lkY_mem : ∀ {C : sC} {a u : Nat} {v : Value}, lkY C a u = some v → (a, 1048576 + u, v) ∈ C
  | [], _, _, _, h => by cases h
  | e :: r, a, u, v, h => by
    unfold lkY at h
    split at h
    · next h1 =>
        rw [Bool.and_eq_true] at h1
        cases h
        rw [← Nat.eq_of_beq_eq_true h1.1, ← Nat.eq_of_beq_eq_true h1.2]
        exact List.mem_cons_self
    · exact List.mem_cons_of_mem _ (lkY_mem h)
def wcF (R : List (Nat × (iI ⊕ List (Nat × iI)))) (a k : Nat) (q : iI) : Bool := R.all (fun e => !Nat.beq e.1 a || (match e.2 with
  | .inl _ => false
  | .inr F => F.all (fun f => !Nat.beq f.1 k || (decide (f.2.1 ≤ q.1) && decide (q.2 ≤ f.2.2)))))
def wcA (R : List (Nat × (iI ⊕ List (Nat × iI)))) (a : Nat) (q : iI) : Bool := R.all (fun e => !Nat.beq e.1 a || (match e.2 with
  | .inl r => decide (r.1 ≤ q.1) && decide (q.2 ≤ r.2)
  | .inr _ => false))
theorem set_1 {M : aM} {a k : Nat} {x : Int32} (b c : Nat) : (aset M a k (.int x)).1 b c = if b = a then (if c = k then x else M.1 b c) else M.1 b c := rfl
theorem J_frame {R : sR} {W : sW} {M0 M M' : aM} (hJ : Jm R W M0 M) (h1 : ∀ e ∈ R.1, rgOk M' e) (h2 : M'.2.2 = M.2.2) (h3 : ∀ a k, wrW W a k = false → M'.1 a k = M.1 a k) : Jm R W M0 M' := ⟨h1, fun e he => by rw [h2]; exact hJ.2.1 e he, fun a k h => (h3 a k h).trans (hJ.2.2.1 a k h), h2.trans hJ.2.2.2⟩
theorem J_setF {R : sR} {W : sW} {M0 M : aM} {a k : Nat} {q : iI} {x : Int32} (hJ : Jm R W M0 M) (h1 : wcF R.1 a k q = true) (h2 : wrW W a k = true) (hx : inI x q) : Jm R W M0 (aset M a k (.int x)) := by
  refine J_frame hJ (fun e he => ?_) rfl (fun b c h => ?_)
  · have h3 := hJ.1 e he
    have h4 := List.all_eq_true.mp h1 e he
    unfold rgOk at h3 ⊢
    split at h3
    · next q' hq =>
        rw [hq] at h4
        simp only [Bool.or_false, Bool.not_eq_true'] at h4
        intro c
        rw [set_1, if_neg (beq_ne h4)]
        exact h3 c
    · next F hF =>
        rw [hF] at h4
        intro f hf
        rw [set_1]
        by_cases e1 : e.1 = a
        · rw [if_pos e1]
          by_cases e2 : f.1 = k
          · rw [if_pos e2]
            simp only [e1, Nat.beq_refl, Bool.not_true, Bool.false_or] at h4
            have h5 := List.all_eq_true.mp h4 f hf
            simp only [e2, Nat.beq_refl, Bool.not_true, Bool.false_or, Bool.and_eq_true, decide_eq_true_eq] at h5
            exact ⟨Int.le_trans h5.1 hx.1, Int.le_trans hx.2 h5.2⟩
          · rw [if_neg e2]
            exact h3 f hf
        · rw [if_neg e1]
          exact h3 f hf
  · rw [set_1]
    by_cases e1 : b = a
    · by_cases e2 : c = k
      · subst e1
        subst e2
        rw [h2] at h
        cases h
      · rw [if_pos e1, if_neg e2]
    · rw [if_neg e1]
theorem J_setA {R : sR} {W : sW} {M0 M : aM} {a k : Nat} {q : iI} {x : Int32} (hJ : Jm R W M0 M) (h1 : wcA R.1 a q = true) (h2 : W.1.any (fun z => Nat.beq z a) = true) (hx : inI x q) : Jm R W M0 (aset M a k (.int x)) := by
  refine J_frame hJ (fun e he => ?_) rfl (fun b c h => ?_)
  · have h3 := hJ.1 e he
    have h4 := List.all_eq_true.mp h1 e he
    unfold rgOk at h3 ⊢
    split at h3
    · next q' hq =>
        rw [hq] at h4
        intro c
        rw [set_1]
        by_cases e1 : e.1 = a
        · simp only [e1, Nat.beq_refl, Bool.not_true, Bool.false_or, Bool.and_eq_true, decide_eq_true_eq] at h4
          rw [if_pos e1]
          by_cases e2 : c = k
          · rw [if_pos e2]
            exact ⟨Int.le_trans h4.1 hx.1, Int.le_trans hx.2 h4.2⟩
          · rw [if_neg e2]
            exact h3 c
        · rw [if_neg e1]
          exact h3 c
    · next F hF =>
        rw [hF] at h4
        simp only [Bool.or_false, Bool.not_eq_true'] at h4
        intro f hf
        rw [set_1, if_neg (beq_ne h4)]
        exact h3 f hf
  · rw [set_1]
    by_cases e1 : b = a
    · subst e1
      have h5 : wrW W b c = true := by
        unfold wrW
        rw [h2, Bool.true_or]
      rw [h5] at h
      cases h
    · rw [if_neg e1]
theorem J_setL {R : sR} {W : sW} {M0 M : aM} {a k : Nat} {y : Int64} (hJ : Jm R W M0 M) : Jm R W M0 (aset M a k (.long y)) := hJ
theorem sat_L {ν : Nat → Int32} {μ : Nat → Int64} {M : aM} {S : sS} {a k : Nat} {y : Int64} (hs : sat ν μ M S) : sat ν μ (aset M a k (.long y)) S := hs
/-- slots behind a write: to a field, to a row at a known place, to a row at any -/
def wtN (S : sS) (j : Nat) : sS := (S.1, S.2.1, S.2.2.1, S.2.2.2.filter (fun e => !Nat.beq e.1 j))
def wtF (S : sS) (a k : Nat) (v : Value) : sS := adC (S.1, S.2.1, S.2.2.1, S.2.2.2.filter (fun e => !(Nat.beq e.1 a && (Nat.beq e.2.1 k || !Nat.blt e.2.1 1048576)))) a k v
theorem sat_F {ν : Nat → Int32} {μ : Nat → Int64} {M : aM} {S : sS} {a k : Nat} {v : Value} {x : Int32} (hs : sat ν μ M S) (hv : cq ν μ v = .int x) : sat ν μ (aset M a k (.int x)) (wtF S a k v) := by
  have h0 : sat ν μ (aset M a k (.int x)) (S.1, S.2.1, S.2.2.1, S.2.2.2.filter (fun e => !(Nat.beq e.1 a && (Nat.beq e.2.1 k || !Nat.blt e.2.1 1048576)))) := by
    refine ⟨hs.1, hs.2.1, fun e he => ?_⟩
    obtain ⟨h1, h2⟩ := List.mem_filter.mp he
    rw [Bool.not_eq_true'] at h2
    rw [hs.2.2 e h1, set_1]
    by_cases e1 : e.1 = a
    · have e0 : Nat.beq e.1 a = true := by rw [e1]; exact Nat.beq_refl a
      rw [e0, Bool.true_and, Bool.or_eq_false_iff, Bool.not_eq_false'] at h2
      rw [dx_lt h2.2, if_pos e1, if_neg (beq_ne h2.1)]
    · rw [if_neg e1]
  unfold wtF
  refine adC_ok h0 ?_
  rw [set_1, if_pos rfl, if_pos rfl]
  exact hv
def wtA (S : sS) (a : iI) (j : Nat) (v : Value) : sS := match decide (a.1 = a.2) with
  | true => wtF S j a.1.toNat v
  | false => wtN S j
theorem wtN_ok {ν : Nat → Int32} {μ : Nat → Int64} {M : aM} {S : sS} {j k : Nat} {x : Int32} (hs : sat ν μ M S) : sat ν μ (aset M j k (.int x)) (wtN S j) := by
  refine ⟨hs.1, hs.2.1, fun e he => ?_⟩
  obtain ⟨h1, h2⟩ := List.mem_filter.mp he
  rw [Bool.not_eq_true'] at h2
  rw [hs.2.2 e h1, set_1, if_neg (beq_ne h2)]
theorem ix_at {x : Int32} {a : iI} (hi : inI x a) (h : a.1 = a.2) : x.toNatClampNeg = a.1.toNat := by
  have h1 := hi.1
  have h2 := hi.2
  show x.toInt.toNat = a.1.toNat
  rw [show x.toInt = a.1 by omega]
theorem wtA_ok {ν : Nat → Int32} {μ : Nat → Int64} {M : aM} {S : sS} {j : Nat} {a : iI} {v : Value} {x y : Int32} (hs : sat ν μ M S) (hi : inI x a) (hv : cq ν μ v = .int y) : sat ν μ (aset M j x.toNatClampNeg (.int y)) (wtA S a j v) := by
  unfold wtA
  split
  · next h =>
      rw [ix_at hi (of_decide_eq_true h)]
      exact sat_F hs hv
  · exact wtN_ok hs
def ixI (a : iI) (n : Nat) : Bool := decide (0 ≤ a.1) && decide (a.2 < (n : Int))
theorem ixI_ok {x : Int32} {a : iI} {n : Nat} (hi : inI x a) (h : ixI a n = true) : vp_in x n := by
  simp only [ixI, Bool.and_eq_true, decide_eq_true_eq] at h
  have h1 := hi.1
  have h2 := hi.2
  intro h3
  rcases h3 with h3 | h3
  · have := Int32.lt_iff_toInt_lt.mp h3
    have e : (0 : Int32).toInt = 0 := by decide
    omega
  · have h4 : n ≤ x.toInt.toNat := h3
    omega
/-- a read of a row -/
def rdF (R : sR) (pr : List Value) (lv : List (Nat × Value)) (st : List Value) (S : sS) (j : Nat) : Option (Value × sS) := match rgA R.1 j with
  | some r => fI pr lv st S r none
  | none => none
def rdA (R : sR) (pr : List Value) (lv : List (Nat × Value)) (vi : Value) (st1 : List Value) (S : sS) (a : iI) (j pc : Nat) : Option (List sK) := match decide (a.1 = a.2) with
  | true => (match lkM S.2.2.2 j a.1.toNat with
    | some v => one pc lv (v :: st1) S
    | none => (match rdF R pr lv (vi :: .ref j :: st1) S j with
      | some (w, S1) => one pc lv (w :: st1) (adC S1 j a.1.toNat w)
      | none => none))
  | false => (match vi with
    | .float u => (match lkY S.2.2.2 j u.toNat with
      | some v => one pc lv (v :: st1) S
      | none => (match rdF R pr lv (.float u :: .ref j :: st1) S j with
        | some (w, S1) => one pc lv (w :: st1) (S1.1, S1.2.1, S1.2.2.1, (j, 1048576 + u.toNat, w) :: S1.2.2.2)
        | none => none))
    | _ => none)
theorem rdF_ok {R : sR} {W : sW} {pr : List Value} {lv : List (Nat × Value)} {vi : Value} {st1 : List Value} {S S1 : sS} {j k : Nat} {w : Value} {ν : Nat → Int32} {μ : Nat → Int64} {M0 M : aM} (h : rdF R pr lv (vi :: .ref j :: st1) S j = some (w, S1)) (hs : sat ν μ M S) (hJ : Jm R W M0 M) : ∃ ν', agq pr ν μ ν' μ ∧ lvq ν' μ lv = lvq ν μ lv ∧ cq ν' μ vi = cq ν μ vi ∧ stq ν' μ st1 = stq ν μ st1 ∧ sat ν' μ M S1 ∧ cq ν' μ w = .int (M.1 j k) := by
  unfold rdF at h
  split at h
  · next r hr =>
      obtain ⟨ν', g1, g2, g3, g4, g5, -⟩ := fI_ok (x := M.1 j k) h (rgA_ok hJ.1 hr _) (fun _ h => by cases h) hs
      simp only [stq, List.map_cons, List.cons.injEq] at g3
      exact ⟨ν', g1, g2, g3.1, g3.2.2, g4, g5⟩
  · cases h
theorem rdA_ok {l : aL} {mi : aI} {P : aP} {kc ks : Nat} {sh : aH} {R : sR} {W : sW} {pr : List Value} {lv : List (Nat × Value)} {vi : Value} {st1 : List Value} {S : sS} {a : iI} {j pc : Nat} {Ks : List sK} {ν : Nat → Int32} {μ : Nat → Int64} {M0 M : aM} {x : Int32} (h : rdA R pr lv vi st1 S a j pc = some Ks) (hi : inI x a) (hx : cq ν μ vi = .int x) (k : ∀ K ∈ Ks, kh l mi P kc ks sh pr (Jm R W M0) ν μ K) (hs : sat ν μ M S) (hJ : Jm R W M0 M) : AW l mi P kc ks pc (lvq ν μ lv) (.int (M.1 j x.toNatClampNeg) :: stq ν μ st1) sh M := by
  unfold rdA at h
  split at h
  · next hc =>
      have hc := of_decide_eq_true hc
      rw [ix_at hi hc]
      split at h
      · next v hv =>
          cases h
          have hk := one_k k agq.refl hs hJ
          simp only [stq, List.map_cons, lkM_ok hs hv] at hk
          exact hk
      · split at h
        · next w S1 hf =>
            cases h
            obtain ⟨ν', g1, g2, -, g3, g4, g5⟩ := rdF_ok (k := a.1.toNat) hf hs hJ
            have hk := one_k k g1 (adC_ok g4 g5) hJ
            simp only [stq, List.map_cons, g5] at hk
            simp only [stq] at g3
            rw [g2, g3] at hk
            exact hk
        · cases h
  · split at h
    · next u =>
        have hu : ν u.toNat = x := Value.int.inj hx
        split at h
        · next v hv =>
            cases h
            have hk := one_k k agq.refl hs hJ
            have h1 := hs.2.2 _ (lkY_mem hv)
            simp only at h1
            rw [dx_sym, hu] at h1
            simp only [stq, List.map_cons, h1] at hk
            exact hk
        · split at h
          · next w S1 hf =>
              cases h
              obtain ⟨ν', g1, g2, g6, g3, g4, g5⟩ := rdF_ok (k := x.toNatClampNeg) hf hs hJ
              have g6 : ν' u.toNat = x := (Value.int.inj g6).trans hu
              have hk := one_k k g1 ⟨g4.1, g4.2.1, List.forall_mem_cons.mpr ⟨by show cq ν' μ w = .int (M.1 j (dxC ν' (1048576 + u.toNat))); rw [dx_sym, g6]; exact g5, g4.2.2⟩⟩ hJ
              simp only [stq, List.map_cons, g5] at hk
              simp only [stq] at g3
              rw [g2, g3] at hk
              exact hk
          · cases h
    · cases h
/-- kinds of fields -/
def isTI (ty : FieldType) : Bool := match ty with
  | .int => true
  | .boolean => true
  | .byte => true
  | .char => true
  | .short => true
  | _ => false
theorem isTI_ok {M : aM} {i k : Nat} {ty : FieldType} (h : isTI ty = true) : ag M i k ty = .int (M.1 i k) := by
  cases ty <;> first
    | rfl
    | cases h
def isTJ (ty : FieldType) : Bool := match ty with
  | .long => true
  | _ => false
theorem isTJ_ok {M : aM} {i k : Nat} {ty : FieldType} (h : isTJ ty = true) : ag M i k ty = .long (M.2.1 i k) := by
  cases ty <;> first
    | rfl
    | cases h
def isTA (ty : FieldType) : Bool := match ty with
  | .object _ => true
  | .array _ => true
  | _ => false
theorem isTA_ok {M : aM} {i k r : Nat} {ty : FieldType} (h : isTA ty = true) (hr : M.2.2 i k = r + 1) : ag M i k ty = .ref r := by
  cases ty <;> first
    | (simp only [ag, hr]; done)
    | cases h
def ptI (ty : FieldType) (a : iI) : Bool := match ty with
  | .int => true
  | .boolean => decide (0 ≤ a.1) && decide (a.2 ≤ 1)
  | _ => false
theorem ptI_ok {ty : FieldType} {a : iI} {x : Int32} (hi : inI x a) (h : ptI ty a = true) : akind ty (.int x) = true ∧ (∀ G, narrow ty (cv G (.int x)) = cv G (.int x)) ∧ ∀ G, fits ty (cv G (.int x)) = true := by
  cases ty <;> first
    | (simp [ptI] at h; done)
    | exact ⟨rfl, fun _ => rfl, fun _ => rfl⟩
    | (simp only [ptI, Bool.and_eq_true, decide_eq_true_eq] at h
       have h1 := hi.1
       have h2 := hi.2
       have e0 : (0 : Int32).toInt = 0 := by decide
       have e1 : (1 : Int32).toInt = 1 := by decide
       have h3 : x = 0 ∨ x = 1 := by
         rcases (show x.toInt = 0 ∨ x.toInt = 1 by omega) with h | h
         · exact Or.inl (Int32.toInt_inj.mp (h.trans e0.symm))
         · exact Or.inr (Int32.toInt_inj.mp (h.trans e1.symm))
       rcases h3 with rfl | rfl
       · exact ⟨rfl, fun _ => by show narrow .boolean (.int 0) = .int 0; decide +kernel, fun _ => by show fits .boolean (.int 0) = true; decide +kernel⟩
       · exact ⟨rfl, fun _ => by show narrow .boolean (.int 1) = .int 1; decide +kernel, fun _ => by show fits .boolean (.int 1) = true; decide +kernel⟩)
theorem ptJ_ok {ty : FieldType} {y : Int64} (h : isTJ ty = true) : akind ty (.long y) = true ∧ (∀ G, narrow ty (cv G (.long y)) = cv G (.long y)) ∧ ∀ G, fits ty (cv G (.long y)) = true := by
  cases ty <;> first
    | exact ⟨rfl, fun _ => rfl, fun _ => rfl⟩
    | cases h
theorem nar_b (y : Int32) : inI (vp_nar .byte y) (-128, 127) := by
  rw [vp_nar_byte]
  exact i2b_in y
theorem nar_z (y : Int32) : inI (vp_nar .boolean y) (0, 1) := by
  have h := and_in (in_full y) (show inI (1 : Int32) (1, 1) from ⟨by decide, by decide⟩)
  have e : oAnd fullI (1, 1) = (0, 1) := by decide
  rw [e] at h
  exact h
/-- constant texts -/
def lkX (own : String) (q : Nat) : List (String × Nat × String × Nat) → Option Nat
  | [] => none
  | x :: r => match Nat.beq x.2.1 q && decide (x.1 = own) with
    | true => some x.2.2.2
    | false => lkX own q r
def sxS (own : String) (q : Nat) : Option Nat := lkX own q aStrs
theorem lkX_ok {own : String} {q t : Nat} : ∀ {L : List (String × Nat × String × Nat)}, lkX own q L = some t → ∃ tx, (own, q, tx, t) ∈ L
  | [], h => by cases h
  | x :: r, h => by
    unfold lkX at h
    split at h
    · next h1 =>
        rw [Bool.and_eq_true, decide_eq_true_eq] at h1
        cases h
        refine ⟨x.2.2.1, ?_⟩
        rw [← h1.2, ← Nat.eq_of_beq_eq_true h1.1]
        exact List.mem_cons_self
    · obtain ⟨tx, h2⟩ := lkX_ok h
      exact ⟨tx, List.mem_cons_of_mem _ h2⟩
theorem sxS_ok {own : String} {q t : Nat} (h : sxS own q = some t) : ∃ tx, (own, q, tx, t) ∈ aStrs := lkX_ok h
section AWX
variable {l : aL} {mi : aI} {P : aP} {kc ks pc : Nat} {lv : List (Nat × Value)} {st : List Value} {sh : aH} {M : aM}
theorem AW.ldcS {n t : Nat} {tx : String} (hd : decode (iC mi) pc = .ok (.ldc n, 2)) (hm : (iO mi, n, tx, t) ∈ aStrs) (k : AW l mi P kc ks (pc + 2) lv (.retAddr t :: st) sh M) : AW l mi P kc ks pc lv st sh M := by
  intro p e s m args below meth c G H locs cells slots ls KC KS C E w hS hl hc hs
  exact va_ldcS C.1 C.2.1 C.2.2.2.1 (E.1.2.2.2.2.1 _ hm) hd (k p e s m args below meth c G H locs cells slots ls KC KS C E w hS hl hc hs)
theorem AW.ldcSw {n t : Nat} {tx : String} (hd : decode (iC mi) pc = .ok (.ldc_w n, 3)) (hm : (iO mi, n, tx, t) ∈ aStrs) (k : AW l mi P kc ks (pc + 3) lv (.retAddr t :: st) sh M) : AW l mi P kc ks pc lv st sh M := by
  intro p e s m args below meth c G H locs cells slots ls KC KS C E w hS hl hc hs T hT X
  obtain ⟨t9, a1, b1⟩ := k p e s m args below meth c G H locs cells slots ls KC KS C E w hS hl hc hs T hT X
  have hZ := E.1.2.2.2.2.1 _ hm
  exact ⟨t9, X.ldcStringW C.1 C.2.2.2.1 (text := tx) (a := G.2.1 t) hZ.1 hZ.2 (g := F0 m pc ls (st.map (cv G))) rfl (by rw [C.2.1]; exact hd) t9 a1, b1⟩
theorem AW.icmpB {c : _root_.Jvm.ClassFile.Cond} {x y : Int32} {off : Int} {t : Nat} (hd : decode (iC mi) pc = .ok (.if_icmp c off, 3)) (ht : (pc : Int) + off = (t : Int)) (kt : brI c x y = true → AW l mi P kc ks t lv st sh M) (kf : brI c x y = false → AW l mi P kc ks (pc + 3) lv st sh M) : AW l mi P kc ks pc lv (.int y :: .int x :: st) sh M := by
  cases c <;> simp only [brI] at kt kf
  · exact AW.icmp_eq hd ht (fun hc => kt (by simpa using hc)) (fun hc => kf (by simpa using hc))
  · exact AW.icmp_ne hd ht (fun hc => kt (by simpa using hc)) (fun hc => kf (by simpa using hc))
  · exact AW.icmp_lt hd ht (fun hc => kt (decide_eq_true hc)) (fun hc => kf (decide_eq_false hc))
  · exact AW.icmp_ge hd ht (fun hc => kt (decide_eq_true hc)) (fun hc => kf (decide_eq_false hc))
  · exact AW.icmp_gt hd ht (fun hc => kt (decide_eq_true hc)) (fun hc => kf (decide_eq_false hc))
  · exact AW.icmp_le hd ht (fun hc => kt (decide_eq_true hc)) (fun hc => kf (decide_eq_false hc))
theorem AW.ifB {c : _root_.Jvm.ClassFile.Cond} {x : Int32} {off : Int} {t : Nat} (hd : decode (iC mi) pc = .ok (.ifCond c off, 3)) (ht : (pc : Int) + off = (t : Int)) (kt : brI c x 0 = true → AW l mi P kc ks t lv st sh M) (kf : brI c x 0 = false → AW l mi P kc ks (pc + 3) lv st sh M) : AW l mi P kc ks pc lv (.int x :: st) sh M := by
  cases c <;> simp only [brI] at kt kf
  · exact AW.if_eq hd ht (fun hc => kt (by simpa using hc)) (fun hc => kf (by simpa using hc))
  · exact AW.if_ne hd ht (fun hc => kt (by simpa using hc)) (fun hc => kf (by simpa using hc))
  · exact AW.if_lt hd ht (fun hc => kt (decide_eq_true hc)) (fun hc => kf (decide_eq_false hc))
  · exact AW.if_ge hd ht (fun hc => kt (decide_eq_true hc)) (fun hc => kf (decide_eq_false hc))
  · exact AW.if_gt hd ht (fun hc => kt (decide_eq_true hc)) (fun hc => kf (decide_eq_false hc))
  · exact AW.if_le hd ht (fun hc => kt (decide_eq_true hc)) (fun hc => kf (decide_eq_false hc))
end AWX
def oFul (_a _b : iI) : iI := fullI
theorem ful_in {z x y : Int32} {a b : iI} (_hx : inI x a) (_hy : inI y b) : inI z (oFul a b) := in_full _
def nzI (b : iI) : Bool := decide (1 ≤ b.1) || decide (b.2 ≤ -1)
theorem nzI_ok {y : Int32} {b : iI} (hy : inI y b) (h : nzI b = true) : ¬ y = 0 := by
  rw [nzI, Bool.or_eq_true, decide_eq_true_eq, decide_eq_true_eq] at h
  have h1 := hy.1
  have h2 := hy.2
  intro e
  subst e
  have e0 : (0 : Int32).toInt = 0 := by decide
  omega
def nzL (v : Value) : Bool := match v with
  | .long y => !decide (y = 0)
  | _ => false
theorem nzL_ok {ν : Nat → Int32} {μ : Nat → Int64} {v : Value} {y : Int64} (hv : cq ν μ v = .long y) (h : nzL v = true) : ¬ y = 0 := by
  cases v <;> first
    | (simp [nzL] at h; done)
    | (cases hv
       simpa [nzL] using h)
def dAd2 (S : sS) (v1 v2 : Value) (a b : iI) : Option (Nat × Int × Int) := match v2 with
  | .int y => dAdd S v1 a y.toInt
  | _ => (match v1 with
    | .int x => dAdd S v2 b x.toInt
    | _ => none)
theorem dAd2_ok {ν : Nat → Int32} {μ : Nat → Int64} {M : aM} {S : sS} (hs : sat ν μ M S) {v1 v2 : Value} {a b : iI} {x y : Int32} (hx : cq ν μ v1 = .int x) (hy : cq ν μ v2 = .int y) (hi : inI x a) (hj : inI y b) : ∀ d, dAd2 S v1 v2 a b = some d → d.2.1 ≤ (x + y).toInt - (ν d.1).toInt ∧ (x + y).toInt - (ν d.1).toInt ≤ d.2.2 := by
  intro d h
  unfold dAd2 at h
  split at h
  · cases hy
    exact dAdd_ok hs hx hi (Int32.toInt_add _ _) d h
  · split at h
    · cases hx
      exact dAdd_ok hs hy hj (by rw [Int32.toInt_add, Int.add_comm]) d h
    · cases h
def dSu2 (S : sS) (v1 v2 : Value) (a : iI) : Option (Nat × Int × Int) := match v2 with
  | .int y => dAdd S v1 a (-y.toInt)
  | _ => none
theorem dSu2_ok {ν : Nat → Int32} {μ : Nat → Int64} {M : aM} {S : sS} (hs : sat ν μ M S) {v1 v2 : Value} {a : iI} {x y : Int32} (hx : cq ν μ v1 = .int x) (hy : cq ν μ v2 = .int y) (hi : inI x a) : ∀ d, dSu2 S v1 v2 a = some d → d.2.1 ≤ (x - y).toInt - (ν d.1).toInt ∧ (x - y).toInt - (ν d.1).toInt ≤ d.2.2 := by
  intro d h
  unfold dSu2 at h
  split at h
  · cases hy
    exact dAdd_ok hs hx hi (by rw [Int32.toInt_sub, Int.sub_eq_add_neg]) d h
  · cases h
/-- a difference of values that are known to stand so to each other -/
def oSu2 (S : sS) (v1 v2 : Value) (a b : iI) : iI := match difS S v1 v2 with
  | some r => (bif clipB r.1 r.2 then r else oSub a b)
  | none => oSub a b
theorem sub_in2 {ν : Nat → Int32} {μ : Nat → Int64} {M : aM} {S : sS} (hs : sat ν μ M S) {v1 v2 : Value} {a b : iI} {x y : Int32} (hx : cq ν μ v1 = .int x) (hy : cq ν μ v2 = .int y) (hi : inI x a) (hj : inI y b) : inI (x - y) (oSu2 S v1 v2 a b) := by
  unfold oSu2
  split
  · next r hr =>
      obtain ⟨x', y', e1, e2, e3, e4⟩ := difS_ok hs hr
      rw [hx] at e1
      rw [hy] at e2
      cases e1
      cases e2
      cases hb : clipB r.1 r.2 with
      | false => exact sub_in hi hj
      | true =>
        have e := clipB_ok (Int32.toInt_sub x y) e3 e4 hb
        exact ⟨by show r.1 ≤ _; omega, by show _ ≤ r.2; omega⟩
  · exact sub_in hi hj
def dAn2 (S : sS) (v1 v2 : Value) (a b : iI) : Option (Nat × Int × Int) := match dAnd S v1 a with
  | some d => some d
  | none => dAnd S v2 b
theorem dAn2_ok {ν : Nat → Int32} {μ : Nat → Int64} {M : aM} {S : sS} (hs : sat ν μ M S) {v1 v2 : Value} {a b : iI} {x y : Int32} (hx : cq ν μ v1 = .int x) (hy : cq ν μ v2 = .int y) (hi : inI x a) (hj : inI y b) : ∀ d, dAn2 S v1 v2 a b = some d → d.2.1 ≤ (x &&& y).toInt - (ν d.1).toInt ∧ (x &&& y).toInt - (ν d.1).toInt ≤ d.2.2 := by
  intro d h
  unfold dAn2 at h
  split at h
  · next d' hd =>
      cases h
      exact dAnd_ok hs hx hi d hd
  · rw [and_comm' x y]
    exact dAnd_ok hs hy hj d h
/-- what a comparison says of a difference -/
def drC (c : _root_.Jvm.ClassFile.Cond) (r : Int × Int) : Int × Int := match c with
  | .lt => (r.1, mnI r.2 (-1))
  | .le => (r.1, mnI r.2 0)
  | .gt => (mxI r.1 1, r.2)
  | .ge => (mxI r.1 0, r.2)
  | .eq => (mxI r.1 0, mnI r.2 0)
  | .ne => r
theorem drC_ok {c : _root_.Jvm.ClassFile.Cond} {x y : Int32} {r : Int × Int} (h : brI c x y = true) (h1 : r.1 ≤ x.toInt - y.toInt) (h2 : x.toInt - y.toInt ≤ r.2) : (drC c r).1 ≤ x.toInt - y.toInt ∧ x.toInt - y.toInt ≤ (drC c r).2 := by
  cases c <;> simp only [brI, decide_eq_true_eq, Bool.not_eq_true', decide_eq_false_iff_not, Int32.lt_iff_toInt_lt, Int32.le_iff_toInt_le] at h <;> simp only [drC]
  · subst h
    exact ⟨mxI_ok h1 (by omega), mnI_ok h2 (by omega)⟩
  · exact ⟨h1, h2⟩
  · exact ⟨h1, mnI_ok h2 (by omega)⟩
  · exact ⟨mxI_ok h1 (by omega), h2⟩
  · exact ⟨mxI_ok h1 (by omega), h2⟩
  · exact ⟨h1, mnI_ok h2 (by omega)⟩
def addD (S : sS) (v1 v2 : Value) (r : Int × Int) : sS := match v1 with
  | .float u => (match v2 with
    | .float b => (S.1, S.2.1, (u.toNat, b.toNat, r.1, r.2) :: S.2.2.1, S.2.2.2)
    | _ => S)
  | _ => S
theorem addD_ok {ν : Nat → Int32} {μ : Nat → Int64} {M : aM} {S : sS} (hs : sat ν μ M S) {v1 v2 : Value} {r : Int × Int} {x y : Int32} (hx : cq ν μ v1 = .int x) (hy : cq ν μ v2 = .int y) (h1 : r.1 ≤ x.toInt - y.toInt) (h2 : x.toInt - y.toInt ≤ r.2) : sat ν μ M (addD S v1 v2 r) := by
  unfold addD
  split
  · split
    · cases hx
      cases hy
      exact ⟨hs.1, List.forall_mem_cons.mpr ⟨⟨h1, h2⟩, hs.2.1⟩, hs.2.2⟩
    · exact hs
  · exact hs
/-- one way of a comparison -/
def br1 (c : _root_.Jvm.ClassFile.Cond) (v1 v2 : Value) (a b : iI) (t : Nat) (lv : List (Nat × Value)) (st : List Value) (S : sS) : List sK := bif neE (rfT c a b).1 && neE (rfT c a b).2 then (match difS S v1 v2 with
    | some r => (bif neE (drC c r) then [(t, lv, st, addD (addT (addT S v1 (rfT c a b).1) v2 (rfT c a b).2) v1 v2 (drC c r))] else [])
    | none => [(t, lv, st, addT (addT S v1 (rfT c a b).1) v2 (rfT c a b).2)]) else []
/-- both ways of a comparison -/
def brK (c : _root_.Jvm.ClassFile.Cond) (v1 v2 : Value) (a b : iI) (t f : Nat) (lv : List (Nat × Value)) (st : List Value) (S : sS) : List sK := br1 c v1 v2 a b t lv st S ++ br1 (ngC c) v1 v2 a b f lv st S
section BR
variable {l : aL} {mi : aI} {P : aP} {kc ks : Nat} {sh : aH} {pr : List Value} {J : aM → Prop} {ν : Nat → Int32} {μ : Nat → Int64} {M : aM} {lv : List (Nat × Value)} {st : List Value} {S : sS}
theorem br_one {c : _root_.Jvm.ClassFile.Cond} {v1 v2 : Value} {a b : iI} {t : Nat} {x y : Int32} (k : ∀ K ∈ br1 c v1 v2 a b t lv st S, kh l mi P kc ks sh pr J ν μ K) (hs : sat ν μ M S) (hJ : J M) (hx : cq ν μ v1 = .int x) (hy : cq ν μ v2 = .int y) (hi : inI x a) (hj : inI y b) (hc : brI c x y = true) : AW l mi P kc ks t (lvq ν μ lv) (stq ν μ st) sh M := by
  obtain ⟨h1, h2⟩ := rfT_ok hc hi hj
  have e : (neE (rfT c a b).1 && neE (rfT c a b).2) = true := by rw [neE_ok h1, neE_ok h2]; rfl
  unfold br1 at k
  rw [e] at k
  simp only [cond_true] at k
  split at k
  · next r hr =>
      obtain ⟨x', y', e1, e2, e3, e4⟩ := difS_ok hs hr
      rw [hx] at e1
      rw [hy] at e2
      cases e1
      cases e2
      obtain ⟨g1, g2⟩ := drC_ok hc e3 e4
      have e5 : neE (drC c r) = true := decide_eq_true (Int.le_trans g1 g2)
      rw [e5] at k
      exact one_k k agq.refl (addD_ok (addT_ok (addT_ok hs hx h1) hy h2) hx hy g1 g2) hJ
  · exact one_k k agq.refl (addT_ok (addT_ok hs hx h1) hy h2) hJ
theorem brK_t {c : _root_.Jvm.ClassFile.Cond} {v1 v2 : Value} {a b : iI} {t f : Nat} {x y : Int32} (k : ∀ K ∈ brK c v1 v2 a b t f lv st S, kh l mi P kc ks sh pr J ν μ K) (hs : sat ν μ M S) (hJ : J M) (hx : cq ν μ v1 = .int x) (hy : cq ν μ v2 = .int y) (hi : inI x a) (hj : inI y b) (hc : brI c x y = true) : AW l mi P kc ks t (lvq ν μ lv) (stq ν μ st) sh M := br_one (fun K hK => k K (List.mem_append_left _ hK)) hs hJ hx hy hi hj hc
theorem brK_f {c : _root_.Jvm.ClassFile.Cond} {v1 v2 : Value} {a b : iI} {t f : Nat} {x y : Int32} (k : ∀ K ∈ brK c v1 v2 a b t f lv st S, kh l mi P kc ks sh pr J ν μ K) (hs : sat ν μ M S) (hJ : J M) (hx : cq ν μ v1 = .int x) (hy : cq ν μ v2 = .int y) (hi : inI x a) (hj : inI y b) (hc : brI c x y = false) : AW l mi P kc ks f (lvq ν μ lv) (stq ν μ st) sh M := br_one (fun K hK => k K (List.mem_append_right _ hK)) hs hJ hx hy hi hj (by rw [ngC_ok, hc]; rfl)
/-- the ways of a switch -/
def tsL (pc : Nat) (v : Value) (a : iI) (lv : List (Nat × Value)) (st : List Value) (S : sS) : List Int → Int → Option (List sK)
  | [], _ => some []
  | off :: r, j => match tsL pc v a lv st S r (j + 1) with
    | some L => (match tgt pc off with
      | some t => some ((bif decide (a.1 ≤ j) && decide (j ≤ a.2) then [(t, lv, st, addT S v (j, j))] else []) ++ L)
      | none => none)
    | none => none
theorem tsL_ok {pc : Nat} {v : Value} {a : iI} {x : Int32} (hs : sat ν μ M S) (hJ : J M) (hx : cq ν μ v = .int x) (hi : inI x a) : ∀ (offs : List Int) (lo : Int) (L : List sK), tsL pc v a lv st S offs lo = some L → (∀ K ∈ L, kh l mi P kc ks sh pr J ν μ K) → ∀ (n : Nat) (off : Int), offs[n]? = some off → x.toInt = lo + n → ∃ t, tgt pc off = some t ∧ AW l mi P kc ks t (lvq ν μ lv) (stq ν μ st) sh M
  | [], lo, L, h, k, n, off, hn, hx => by simp at hn
  | o :: r, lo, L, h, k, n, off, hn, hxn => by
    unfold tsL at h
    split at h
    · next L' hL =>
        split at h
        · next t ht =>
            cases h
            cases n with
            | zero =>
              simp at hn
              subst hn
              refine ⟨t, ht, ?_⟩
              have h1 := hi.1
              have h2 := hi.2
              have e : (decide (a.1 ≤ lo) && decide (lo ≤ a.2)) = true := by
                rw [Bool.and_eq_true, decide_eq_true_eq, decide_eq_true_eq]
                omega
              rw [e] at k
              exact one_k (fun K hK => k K (List.mem_append_left _ hK)) agq.refl (addT_ok hs hx ⟨by show lo ≤ _; omega, by show _ ≤ lo; omega⟩) hJ
            | succ n =>
              exact tsL_ok hs hJ hx hi r (lo + 1) L' hL (fun K hK => k K (List.mem_append_right _ hK)) n off (by simpa using hn) (by omega)
        · cases h
    · cases h
def tsD (t : Nat) (v : Value) (a : iI) (lo hi : Int) (lv : List (Nat × Value)) (st : List Value) (S : sS) : List sK := (bif decide (a.1 < lo) then [(t, lv, st, addT S v (a.1, mnI a.2 (lo - 1)))] else []) ++ (bif decide (hi < a.2) then [(t, lv, st, addT S v (mxI a.1 (hi + 1), a.2))] else [])
theorem tsD_ok {t : Nat} {v : Value} {a : iI} {lo hi : Int} {x : Int32} (k : ∀ K ∈ tsD t v a lo hi lv st S, kh l mi P kc ks sh pr J ν μ K) (hs : sat ν μ M S) (hJ : J M) (hx : cq ν μ v = .int x) (hi' : inI x a) (hb : x.toInt < lo ∨ hi < x.toInt) : AW l mi P kc ks t (lvq ν μ lv) (stq ν μ st) sh M := by
  have h1 := hi'.1
  have h2 := hi'.2
  rcases hb with hb | hb
  · have e : decide (a.1 < lo) = true := decide_eq_true (by omega)
    unfold tsD at k
    rw [e] at k
    exact one_k (fun K hK => k K (List.mem_append_left _ hK)) agq.refl (addT_ok hs hx ⟨h1, mnI_ok h2 (by omega)⟩) hJ
  · have e : decide (hi < a.2) = true := decide_eq_true (by omega)
    unfold tsD at k
    rw [e] at k
    exact one_k (fun K hK => k K (List.mem_append_right _ hK)) agq.refl (addT_ok hs hx ⟨mxI_ok h1 (by omega), h2⟩) hJ
end BR
/-- one instruction that is no call and no return: where it may go on -/
def sx (g : aPg) (R : sR) (W : sW) (sh : aH) (pr : List Value) (id pc : Nat) (i : Instr) (len : Nat) (lv : List (Nat × Value)) (st : List Value) (S : sS) : Option (List sK) :=
  match i with
  | .iconst v => bif Nat.beq len 1 then one (pc + 1) (lv) (.int (Int32.ofInt v) :: st) (S) else none
  | .bipush v => bif Nat.beq len 2 then one (pc + 2) (lv) (.int ((Int8.ofInt v).toInt32) :: st) (S) else none
  | .sipush v => bif Nat.beq len 3 then one (pc + 3) (lv) (.int ((Int16.ofInt v).toInt32) :: st) (S) else none
  | .lconst v => bif Nat.beq len 1 then one (pc + 1) (lv) (.long (Int64.ofNat v) :: st) (S) else none
  | .ldc q => (match pK g (pO g id) q with | some v => (bif Nat.beq len 2 then one (pc + 2) (lv) (.int v :: st) (S) else none) | none => (match sxS (iO (pI g id)) q with | some t => (bif Nat.beq len 2 then one (pc + 2) (lv) (.retAddr t :: st) (S) else none) | none => none))
  | .ldc_w q => (match pK g (pO g id) q with | some v => (bif Nat.beq len 3 then one (pc + 3) (lv) (.int v :: st) (S) else none) | none => (match sxS (iO (pI g id)) q with | some t => (bif Nat.beq len 3 then one (pc + 3) (lv) (.retAddr t :: st) (S) else none) | none => none))
  | .ldc2_w q => (match pJ g (pO g id) q with | some v => (bif Nat.beq len 3 then one (pc + 3) (lv) (.long v :: st) (S) else none) | none => none)
  | .iload_n q => (match lk lv q with | some v => (bif Nat.beq len 1 && isQ v then one (pc + 1) (lv) (v :: st) (S) else none) | none => none)
  | .iload q => (match lk lv q with | some v => (bif Nat.beq len 2 && isQ v then one (pc + 2) (lv) (v :: st) (S) else none) | none => none)
  | .lload_n q => (match lk lv q with | some v => (bif Nat.beq len 1 && isL v then one (pc + 1) (lv) (v :: st) (S) else none) | none => none)
  | .lload q => (match lk lv q with | some v => (bif Nat.beq len 2 && isL v then one (pc + 2) (lv) (v :: st) (S) else none) | none => none)
  | .aload_n q => (match lk lv q with | some v => (bif Nat.beq len 1 && isR v then one (pc + 1) (lv) (v :: st) (S) else none) | none => none)
  | .aload q => (match lk lv q with | some v => (bif Nat.beq len 2 && isR v then one (pc + 2) (lv) (v :: st) (S) else none) | none => none)
  | .istore_n q => (match st with | v :: st => (bif Nat.beq len 1 && (isQ v && Nat.blt (q : Nat) (iL (pI g id))) then one (pc + 1) (s1 lv q v) (st) (S) else none) | _ => none)
  | .istore q => (match st with | v :: st => (bif Nat.beq len 2 && (isQ v && Nat.blt (q : Nat) (iL (pI g id))) then one (pc + 2) (s1 lv q v) (st) (S) else none) | _ => none)
  | .lstore_n q => (match st with | v :: st => (bif Nat.beq len 1 && (isL v && Nat.blt ((q : Nat) + 1) (iL (pI g id))) then one (pc + 1) (s2 lv q v) (st) (S) else none) | _ => none)
  | .lstore q => (match st with | v :: st => (bif Nat.beq len 2 && (isL v && Nat.blt ((q : Nat) + 1) (iL (pI g id))) then one (pc + 2) (s2 lv q v) (st) (S) else none) | _ => none)
  | .astore_n q => (match st with | v :: st => (bif Nat.beq len 1 && (isR v && Nat.blt (q : Nat) (iL (pI g id))) then one (pc + 1) (s1 lv q v) (st) (S) else none) | _ => none)
  | .astore q => (match st with | v :: st => (bif Nat.beq len 2 && (isR v && Nat.blt (q : Nat) (iL (pI g id))) then one (pc + 2) (s1 lv q v) (st) (S) else none) | _ => none)
  | .iinc q n => (match lk lv q with | some v => (match ivS S v with | some a => (bif Nat.beq len 3 && (Nat.blt q (iL (pI g id)) && (decide (-32768 ≤ n) && decide (n ≤ 32767))) then (match fI (v :: pr) lv st S (oAdd a (n, n)) (dAdd S v a n) with | some (w, S1) => one (pc + 3) (s1 lv q w) (st) (S1) | none => none) else none) | none => none) | none => none)
  | .iadd => (match st with | .int y :: .int x :: st1 => (bif Nat.beq len 1 then one (pc + 1) (lv) (.int (x + y) :: st1) (S) else none) | v2 :: v1 :: st1 => (match ivS S v1 with | some a => (match ivS S v2 with | some b => (bif Nat.beq len 1 then (match fI pr lv st S (oAdd a b) (dAd2 S v1 v2 a b) with | some (w, S1) => one (pc + 1) (lv) (w :: st1) (S1) | none => none) else none) | none => none) | none => none) | _ => none)
  | .isub => (match st with | .int y :: .int x :: st1 => (bif Nat.beq len 1 then one (pc + 1) (lv) (.int (x - y) :: st1) (S) else none) | v2 :: v1 :: st1 => (match ivS S v1 with | some a => (match ivS S v2 with | some b => (bif Nat.beq len 1 then (match fI pr lv st S (oSu2 S v1 v2 a b) (dSu2 S v1 v2 a) with | some (w, S1) => one (pc + 1) (lv) (w :: st1) (S1) | none => none) else none) | none => none) | none => none) | _ => none)
  | .imul => (match st with | .int y :: .int x :: st1 => (bif Nat.beq len 1 then one (pc + 1) (lv) (.int (x * y) :: st1) (S) else none) | v2 :: v1 :: st1 => (match ivS S v1 with | some a => (match ivS S v2 with | some b => (bif Nat.beq len 1 then (match fI pr lv st S (oMul a b) (none) with | some (w, S1) => one (pc + 1) (lv) (w :: st1) (S1) | none => none) else none) | none => none) | none => none) | _ => none)
  | .iand => (match st with | .int y :: .int x :: st1 => (bif Nat.beq len 1 then one (pc + 1) (lv) (.int (x &&& y) :: st1) (S) else none) | v2 :: v1 :: st1 => (match ivS S v1 with | some a => (match ivS S v2 with | some b => (bif Nat.beq len 1 then (match fI pr lv st S (oAnd a b) (dAn2 S v1 v2 a b) with | some (w, S1) => one (pc + 1) (lv) (w :: st1) (S1) | none => none) else none) | none => none) | none => none) | _ => none)
  | .ior => (match st with | .int y :: .int x :: st1 => (bif Nat.beq len 1 then one (pc + 1) (lv) (.int (x ||| y) :: st1) (S) else none) | v2 :: v1 :: st1 => (match ivS S v1 with | some a => (match ivS S v2 with | some b => (bif Nat.beq len 1 then (match fI pr lv st S (oOr a b) (none) with | some (w, S1) => one (pc + 1) (lv) (w :: st1) (S1) | none => none) else none) | none => none) | none => none) | _ => none)
  | .ixor => (match st with | .int y :: .int x :: st1 => (bif Nat.beq len 1 then one (pc + 1) (lv) (.int (x ^^^ y) :: st1) (S) else none) | v2 :: v1 :: st1 => (match ivS S v1 with | some a => (match ivS S v2 with | some b => (bif Nat.beq len 1 then (match fI pr lv st S (oOr a b) (none) with | some (w, S1) => one (pc + 1) (lv) (w :: st1) (S1) | none => none) else none) | none => none) | none => none) | _ => none)
  | .ishl => (match st with | .int y :: .int x :: st1 => (bif Nat.beq len 1 then one (pc + 1) (lv) (.int (x <<< (y &&& 31)) :: st1) (S) else none) | v2 :: v1 :: st1 => (match ivS S v1 with | some a => (match ivS S v2 with | some b => (bif Nat.beq len 1 then (match fI pr lv st S (oShl a b) (none) with | some (w, S1) => one (pc + 1) (lv) (w :: st1) (S1) | none => none) else none) | none => none) | none => none) | _ => none)
  | .ishr => (match st with | .int y :: .int x :: st1 => (bif Nat.beq len 1 then one (pc + 1) (lv) (.int (x >>> (y &&& 31)) :: st1) (S) else none) | v2 :: v1 :: st1 => (match ivS S v1 with | some a => (match ivS S v2 with | some b => (bif Nat.beq len 1 then (match fI pr lv st S (oShr a b) (none) with | some (w, S1) => one (pc + 1) (lv) (w :: st1) (S1) | none => none) else none) | none => none) | none => none) | _ => none)
  | .iushr => (match st with | .int y :: .int x :: st1 => (bif Nat.beq len 1 then one (pc + 1) (lv) (.int ((x.toUInt32 >>> (y.toUInt32 &&& Int32.toUInt32 31)).toInt32) :: st1) (S) else none) | v2 :: v1 :: st1 => (match ivS S v1 with | some a => (match ivS S v2 with | some b => (bif Nat.beq len 1 then (match fI pr lv st S (oFul a b) (none) with | some (w, S1) => one (pc + 1) (lv) (w :: st1) (S1) | none => none) else none) | none => none) | none => none) | _ => none)
  | .idiv => (match st with | .int y :: .int x :: st1 => (bif Nat.beq len 1 && !decide (y = 0) then one (pc + 1) (lv) (.int (x / y) :: st1) (S) else none) | v2 :: v1 :: st1 => (match ivS S v1 with | some a => (match ivS S v2 with | some b => (bif Nat.beq len 1 && nzI b then (match fI pr lv st S (oDiv a b) (none) with | some (w, S1) => one (pc + 1) (lv) (w :: st1) (S1) | none => none) else none) | none => none) | none => none) | _ => none)
  | .irem => (match st with | .int y :: .int x :: st1 => (bif Nat.beq len 1 && !decide (y = 0) then one (pc + 1) (lv) (.int (x - x / y * y) :: st1) (S) else none) | v2 :: v1 :: st1 => (match ivS S v1 with | some a => (match ivS S v2 with | some b => (bif Nat.beq len 1 && nzI b then (match fI pr lv st S (oRem a b) (none) with | some (w, S1) => one (pc + 1) (lv) (w :: st1) (S1) | none => none) else none) | none => none) | none => none) | _ => none)
  | .ladd => (match st with | v2 :: v1 :: st1 => (bif Nat.beq len 1 && (isL v1 && (isL v2)) then (match fJ pr lv st S with | some (w, S1) => one (pc + 1) (lv) (w :: st1) (S1) | none => none) else none) | _ => none)
  | .lsub => (match st with | v2 :: v1 :: st1 => (bif Nat.beq len 1 && (isL v1 && (isL v2)) then (match fJ pr lv st S with | some (w, S1) => one (pc + 1) (lv) (w :: st1) (S1) | none => none) else none) | _ => none)
  | .lmul => (match st with | v2 :: v1 :: st1 => (bif Nat.beq len 1 && (isL v1 && (isL v2)) then (match fJ pr lv st S with | some (w, S1) => one (pc + 1) (lv) (w :: st1) (S1) | none => none) else none) | _ => none)
  | .land => (match st with | v2 :: v1 :: st1 => (bif Nat.beq len 1 && (isL v1 && (isL v2)) then (match fJ pr lv st S with | some (w, S1) => one (pc + 1) (lv) (w :: st1) (S1) | none => none) else none) | _ => none)
  | .lor => (match st with | v2 :: v1 :: st1 => (bif Nat.beq len 1 && (isL v1 && (isL v2)) then (match fJ pr lv st S with | some (w, S1) => one (pc + 1) (lv) (w :: st1) (S1) | none => none) else none) | _ => none)
  | .ldiv => (match st with | v2 :: v1 :: st1 => (bif Nat.beq len 1 && (isL v1 && (isL v2 && nzL v2)) then (match fJ pr lv st S with | some (w, S1) => one (pc + 1) (lv) (w :: st1) (S1) | none => none) else none) | _ => none)
  | .lshl => (match st with | v2 :: v1 :: st1 => (bif Nat.beq len 1 && (isL v1 && (isQ v2)) then (match fJ pr lv st S with | some (w, S1) => one (pc + 1) (lv) (w :: st1) (S1) | none => none) else none) | _ => none)
  | .lshr => (match st with | v2 :: v1 :: st1 => (bif Nat.beq len 1 && (isL v1 && (isQ v2)) then (match fJ pr lv st S with | some (w, S1) => one (pc + 1) (lv) (w :: st1) (S1) | none => none) else none) | _ => none)
  | .lushr => (match st with | v2 :: v1 :: st1 => (bif Nat.beq len 1 && (isL v1 && (isQ v2)) then (match fJ pr lv st S with | some (w, S1) => one (pc + 1) (lv) (w :: st1) (S1) | none => none) else none) | _ => none)
  | .lcmp => (match st with | v2 :: v1 :: st1 => (bif Nat.beq len 1 && (isL v1 && isL v2) then (match fI pr lv st S (-1, 1) none with | some (w, S1) => one (pc + 1) (lv) (w :: st1) (S1) | none => none) else none) | _ => none)
  | .i2b => (match st with | v1 :: st1 => (bif Nat.beq len 1 && isQ v1 then (match fI pr lv st S (-128, 127) none with | some (w, S1) => one (pc + 1) (lv) (w :: st1) (S1) | none => none) else none) | _ => none)
  | .i2c => (match st with | v1 :: st1 => (bif Nat.beq len 1 && isQ v1 then (match fI pr lv st S fullI none with | some (w, S1) => one (pc + 1) (lv) (w :: st1) (S1) | none => none) else none) | _ => none)
  | .l2i => (match st with | v1 :: st1 => (bif Nat.beq len 1 && isL v1 then (match fI pr lv st S fullI none with | some (w, S1) => one (pc + 1) (lv) (w :: st1) (S1) | none => none) else none) | _ => none)
  | .i2l => (match st with | v1 :: st1 => (bif Nat.beq len 1 && isQ v1 then (match fJ pr lv st S with | some (w, S1) => one (pc + 1) (lv) (w :: st1) (S1) | none => none) else none) | _ => none)
  | .dup => (match st with | v :: st1 => (bif Nat.beq len 1 && Nat.beq v.category 1 then one (pc + 1) (lv) (v :: v :: st1) (S) else none) | _ => none)
  | .pop => (match st with | v :: st1 => (bif Nat.beq len 1 && Nat.beq v.category 1 then one (pc + 1) (lv) (st1) (S) else none) | _ => none)
  | .dup2 => (match st with | v :: w :: st1 => (bif Nat.beq len 1 && (Nat.beq v.category 1 && Nat.beq w.category 1) then one (pc + 1) (lv) (v :: w :: v :: w :: st1) (S) else none) | _ => none)
  | .goto off => (bif Nat.beq len 3 then (match tgt pc off with | some t => one t lv st S | none => none) else none)
  | .if_icmp c off => (match st with | v2 :: v1 :: st1 => (match ivS S v1 with | some a => (match ivS S v2 with | some b => (bif Nat.beq len 3 then (match tgt pc off with | some t => some (brK c v1 v2 a b t (pc + 3) lv st1 S) | none => none) else none) | none => none) | none => none) | _ => none)
  | .ifCond c off => (match st with | v1 :: st1 => (match ivS S v1 with | some a => (bif Nat.beq len 3 then (match tgt pc off with | some t => some (brK c v1 (.int 0) a (0, 0) t (pc + 3) lv st1 S) | none => none) else none) | none => none) | _ => none)
  | .tableswitch dflt lo hi offs => (match st with | v1 :: st1 => (match ivS S v1 with | some a => (match tsL pc v1 a lv st1 S offs.toList lo with | some L => (match tgt pc dflt with | some t => (bif Nat.beq offs.size (hi - lo + 1).toNat && decide (lo ≤ hi) then some (tsD t v1 a lo hi lv st1 S ++ L) else none) | none => none) | none => none) | none => none) | _ => none)
  | .getfield q => (match st with | .ref j :: st1 => (match pF g (pO g id) q with | some (ci, f, _) => (bif Nat.beq len 3 && shO sh j ci then (bif isTI (tyO ci f) then (match lkM S.2.2.2 j f with | some v => one (pc + 3) (lv) (v :: st1) (S) | none => (match rgF R.1 j f with | some r => (match fI pr lv st S r none with | some (w, S1) => one (pc + 3) (lv) (w :: st1) (adC S1 j f w) | none => none) | none => none)) else bif isTJ (tyO ci f) then (match fJ pr lv st S with | some (w, S1) => one (pc + 3) (lv) (w :: st1) (S1) | none => none) else (match rgR R.2 j f with | some (r + 1) => (bif isTA (tyO ci f) then one (pc + 3) (lv) (.ref r :: st1) (S) else none) | _ => none)) else none) | none => none) | _ => none)
  | .putfield q => (match st with | v :: .ref j :: st1 => (match pF g (pO g id) q with | some (ci, f, b) => (bif Nat.beq len 3 && (shO sh j ci && Nat.beq b 0) then (bif isL v && isTJ (tyO ci f) then one (pc + 3) (lv) (st1) (S) else (match ivS S v with | some a => (bif wcF R.1 j f a && (wrW W j f && ptI (tyO ci f) a) then one (pc + 3) (lv) (st1) (wtF S j f v) else none) | none => none)) else none) | none => none) | _ => none)
  | .iaload => (match st with | vi :: .ref j :: st1 => (match shA sh j .int with | some n => (match ivS S vi with | some a => (bif Nat.beq len 1 && ixI a n then rdA R pr lv vi st1 S a j (pc + 1) else none) | none => none) | none => none) | _ => none)
  | .baload => (match st with | vi :: .ref j :: st1 => (match shA sh j .byte with | some n => (match ivS S vi with | some a => (bif Nat.beq len 1 && ixI a n then rdA R pr lv vi st1 S a j (pc + 1) else none) | none => none) | none => (match shA sh j .boolean with | some n => (match ivS S vi with | some a => (bif Nat.beq len 1 && ixI a n then rdA R pr lv vi st1 S a j (pc + 1) else none) | none => none) | none => none)) | _ => none)
  | .laload => (match st with | vi :: .ref j :: st1 => (match shA sh j .long with | some n => (match ivS S vi with | some a => (bif Nat.beq len 1 && ixI a n then (match fJ pr lv st S with | some (w, S1) => one (pc + 1) (lv) (w :: st1) (S1) | none => none) else none) | none => none) | none => none) | _ => none)
  | .iastore => (match st with | v :: vi :: .ref j :: st1 => (match shA sh j .int with | some n => (match ivS S vi with | some a => (match ivS S v with | some b => (bif Nat.beq len 1 && (ixI a n && (wcA R.1 j b && W.1.any (fun z => Nat.beq z j))) then one (pc + 1) (lv) (st1) (wtA S a j v) else none) | none => none) | none => none) | none => none) | _ => none)
  | .bastore => (match st with | v :: vi :: .ref j :: st1 => (match shA sh j .byte with | some n => (match ivS S vi with | some a => (bif Nat.beq len 1 && (isQ v && (ixI a n && (wcA R.1 j (-128, 127) && W.1.any (fun z => Nat.beq z j)))) then one (pc + 1) (lv) (st1) (wtN S j) else none) | none => none) | none => (match shA sh j .boolean with | some n => (match ivS S vi with | some a => (bif Nat.beq len 1 && (isQ v && (ixI a n && (wcA R.1 j (0, 1) && W.1.any (fun z => Nat.beq z j)))) then one (pc + 1) (lv) (st1) (wtN S j) else none) | none => none) | none => none)) | _ => none)
  | .lastore => (match st with | v :: vi :: .ref j :: st1 => (match shA sh j .long with | some n => (match ivS S vi with | some a => (bif Nat.beq len 1 && (isL v && ixI a n) then one (pc + 1) (lv) (st1) (S) else none) | none => none) | none => none) | _ => none)
  | .arraylength => (match st with | .ref j :: st1 => (match sh.2[j]? with | some (.inr (_, n)) => (bif Nat.beq len 1 then one (pc + 1) (lv) (.int (Int32.ofNat n) :: st1) (S) else none) | _ => none) | _ => none)
  | _ => none
theorem sx_iconst {l : aL} {g : aPg} {R : sR} {W : sW} {sh : aH} {pr : List Value} {id pc len kc ks : Nat} {lv : List (Nat × Value)} {st : List Value} {S : sS} {Ks : List sK} {P : aP} {ν : Nat → Int32} {μ : Nat → Int64} {M0 M : aM} {v : Int} (G : pgOk g) (hd : decode (iC (pI g id)) pc = .ok (.iconst v, len)) (h : sx g R W sh pr id pc (.iconst v) len lv st S = some Ks) (hs : sat ν μ M S) (hJ : Jm R W M0 M) (k : ∀ K ∈ Ks, kh l (pI g id) P kc ks sh pr (Jm R W M0) ν μ K) : AW l (pI g id) P kc ks pc (lvq ν μ lv) (stq ν μ st) sh M := by
  simp only [sx] at h
  replace h := bif_some2 h
  obtain ⟨h1, h⟩ := h
  have e1 := Nat.eq_of_beq_eq_true h1
  subst e1
  cases h
  exact AW.iconst hd (one_k k agq.refl hs hJ)
theorem sx_bipush {l : aL} {g : aPg} {R : sR} {W : sW} {sh : aH} {pr : List Value} {id pc len kc ks : Nat} {lv : List (Nat × Value)} {st : List Value} {S : sS} {Ks : List sK} {P : aP} {ν : Nat → Int32} {μ : Nat → Int64} {M0 M : aM} {v : Int} (G : pgOk g) (hd : decode (iC (pI g id)) pc = .ok (.bipush v, len)) (h : sx g R W sh pr id pc (.bipush v) len lv st S = some Ks) (hs : sat ν μ M S) (hJ : Jm R W M0 M) (k : ∀ K ∈ Ks, kh l (pI g id) P kc ks sh pr (Jm R W M0) ν μ K) : AW l (pI g id) P kc ks pc (lvq ν μ lv) (stq ν μ st) sh M := by
  simp only [sx] at h
  replace h := bif_some2 h
  obtain ⟨h1, h⟩ := h
  have e1 := Nat.eq_of_beq_eq_true h1
  subst e1
  cases h
  exact AW.bipush hd (one_k k agq.refl hs hJ)
theorem sx_sipush {l : aL} {g : aPg} {R : sR} {W : sW} {sh : aH} {pr : List Value} {id pc len kc ks : Nat} {lv : List (Nat × Value)} {st : List Value} {S : sS} {Ks : List sK} {P : aP} {ν : Nat → Int32} {μ : Nat → Int64} {M0 M : aM} {v : Int} (G : pgOk g) (hd : decode (iC (pI g id)) pc = .ok (.sipush v, len)) (h : sx g R W sh pr id pc (.sipush v) len lv st S = some Ks) (hs : sat ν μ M S) (hJ : Jm R W M0 M) (k : ∀ K ∈ Ks, kh l (pI g id) P kc ks sh pr (Jm R W M0) ν μ K) : AW l (pI g id) P kc ks pc (lvq ν μ lv) (stq ν μ st) sh M := by
  simp only [sx] at h
  replace h := bif_some2 h
  obtain ⟨h1, h⟩ := h
  have e1 := Nat.eq_of_beq_eq_true h1
  subst e1
  cases h
  exact AW.sipush hd (one_k k agq.refl hs hJ)
theorem sx_lconst {l : aL} {g : aPg} {R : sR} {W : sW} {sh : aH} {pr : List Value} {id pc len kc ks : Nat} {lv : List (Nat × Value)} {st : List Value} {S : sS} {Ks : List sK} {P : aP} {ν : Nat → Int32} {μ : Nat → Int64} {M0 M : aM} {v : Fin 2} (G : pgOk g) (hd : decode (iC (pI g id)) pc = .ok (.lconst v, len)) (h : sx g R W sh pr id pc (.lconst v) len lv st S = some Ks) (hs : sat ν μ M S) (hJ : Jm R W M0 M) (k : ∀ K ∈ Ks, kh l (pI g id) P kc ks sh pr (Jm R W M0) ν μ K) : AW l (pI g id) P kc ks pc (lvq ν μ lv) (stq ν μ st) sh M := by
  simp only [sx] at h
  replace h := bif_some2 h
  obtain ⟨h1, h⟩ := h
  have e1 := Nat.eq_of_beq_eq_true h1
  subst e1
  cases h
  exact AW.lconst hd (one_k k agq.refl hs hJ)
theorem sx_ldc {l : aL} {g : aPg} {R : sR} {W : sW} {sh : aH} {pr : List Value} {id pc len kc ks : Nat} {lv : List (Nat × Value)} {st : List Value} {S : sS} {Ks : List sK} {P : aP} {ν : Nat → Int32} {μ : Nat → Int64} {M0 M : aM} {q : Nat} (G : pgOk g) (hd : decode (iC (pI g id)) pc = .ok (.ldc q, len)) (h : sx g R W sh pr id pc (.ldc q) len lv st S = some Ks) (hs : sat ν μ M S) (hJ : Jm R W M0 M) (k : ∀ K ∈ Ks, kh l (pI g id) P kc ks sh pr (Jm R W M0) ν μ K) : AW l (pI g id) P kc ks pc (lvq ν μ lv) (stq ν μ st) sh M := by
  simp only [sx] at h
  split at h
  · next v he =>
      replace h := bif_some2 h
      obtain ⟨h1, h⟩ := h
      have e1 := Nat.eq_of_beq_eq_true h1
      subst e1
      cases h
      exact AW.ldc hd (G.2.2.2.2.1 _ _ _ he) (one_k k agq.refl hs hJ)
  · split at h
    · next t he =>
        replace h := bif_some2 h
        obtain ⟨h1, h⟩ := h
        have e1 := Nat.eq_of_beq_eq_true h1
        subst e1
        cases h
        obtain ⟨tx, hm⟩ := sxS_ok he
        exact AW.ldcS hd hm (one_k k agq.refl hs hJ)
    · cases h
theorem sx_ldc_w {l : aL} {g : aPg} {R : sR} {W : sW} {sh : aH} {pr : List Value} {id pc len kc ks : Nat} {lv : List (Nat × Value)} {st : List Value} {S : sS} {Ks : List sK} {P : aP} {ν : Nat → Int32} {μ : Nat → Int64} {M0 M : aM} {q : Nat} (G : pgOk g) (hd : decode (iC (pI g id)) pc = .ok (.ldc_w q, len)) (h : sx g R W sh pr id pc (.ldc_w q) len lv st S = some Ks) (hs : sat ν μ M S) (hJ : Jm R W M0 M) (k : ∀ K ∈ Ks, kh l (pI g id) P kc ks sh pr (Jm R W M0) ν μ K) : AW l (pI g id) P kc ks pc (lvq ν μ lv) (stq ν μ st) sh M := by
  simp only [sx] at h
  split at h
  · next v he =>
      replace h := bif_some2 h
      obtain ⟨h1, h⟩ := h
      have e1 := Nat.eq_of_beq_eq_true h1
      subst e1
      cases h
      exact AW.ldcw hd (G.2.2.2.2.1 _ _ _ he) (one_k k agq.refl hs hJ)
  · split at h
    · next t he =>
        replace h := bif_some2 h
        obtain ⟨h1, h⟩ := h
        have e1 := Nat.eq_of_beq_eq_true h1
        subst e1
        cases h
        obtain ⟨tx, hm⟩ := sxS_ok he
        exact AW.ldcSw hd hm (one_k k agq.refl hs hJ)
    · cases h
theorem sx_ldc2_w {l : aL} {g : aPg} {R : sR} {W : sW} {sh : aH} {pr : List Value} {id pc len kc ks : Nat} {lv : List (Nat × Value)} {st : List Value} {S : sS} {Ks : List sK} {P : aP} {ν : Nat → Int32} {μ : Nat → Int64} {M0 M : aM} {q : Nat} (G : pgOk g) (hd : decode (iC (pI g id)) pc = .ok (.ldc2_w q, len)) (h : sx g R W sh pr id pc (.ldc2_w q) len lv st S = some Ks) (hs : sat ν μ M S) (hJ : Jm R W M0 M) (k : ∀ K ∈ Ks, kh l (pI g id) P kc ks sh pr (Jm R W M0) ν μ K) : AW l (pI g id) P kc ks pc (lvq ν μ lv) (stq ν μ st) sh M := by
  simp only [sx] at h
  split at h
  · next v he =>
      replace h := bif_some2 h
      obtain ⟨h1, h⟩ := h
      have e1 := Nat.eq_of_beq_eq_true h1
      subst e1
      cases h
      exact AW.ldc2 hd (G.2.2.2.2.2.1 _ _ _ he) (one_k k agq.refl hs hJ)
  · cases h
theorem sx_iload_n {l : aL} {g : aPg} {R : sR} {W : sW} {sh : aH} {pr : List Value} {id pc len kc ks : Nat} {lv : List (Nat × Value)} {st : List Value} {S : sS} {Ks : List sK} {P : aP} {ν : Nat → Int32} {μ : Nat → Int64} {M0 M : aM} {q : Fin 4} (G : pgOk g) (hd : decode (iC (pI g id)) pc = .ok (.iload_n q, len)) (h : sx g R W sh pr id pc (.iload_n q) len lv st S = some Ks) (hs : sat ν μ M S) (hJ : Jm R W M0 M) (k : ∀ K ∈ Ks, kh l (pI g id) P kc ks sh pr (Jm R W M0) ν μ K) : AW l (pI g id) P kc ks pc (lvq ν μ lv) (stq ν μ st) sh M := by
  simp only [sx] at h
  split at h
  · next v he =>
      replace h := bif_some2 h
      obtain ⟨h1, h⟩ := h
      rw [Bool.and_eq_true] at h1
      obtain ⟨h1, h2⟩ := h1
      have e1 := Nat.eq_of_beq_eq_true h1
      subst e1
      cases h
      have hk := one_k k agq.refl hs hJ
      have hl : lk (lvq ν μ lv) q = some (cq ν μ v) := by rw [lk_q, he]; rfl
      obtain ⟨x, hx⟩ := isQ_ok ν μ h2
      rw [hx] at hl
      simp only [stq, List.map_cons, hx] at hk
      exact AW.iload_n hd hl hk
  · cases h
theorem sx_iload {l : aL} {g : aPg} {R : sR} {W : sW} {sh : aH} {pr : List Value} {id pc len kc ks : Nat} {lv : List (Nat × Value)} {st : List Value} {S : sS} {Ks : List sK} {P : aP} {ν : Nat → Int32} {μ : Nat → Int64} {M0 M : aM} {q : Nat} (G : pgOk g) (hd : decode (iC (pI g id)) pc = .ok (.iload q, len)) (h : sx g R W sh pr id pc (.iload q) len lv st S = some Ks) (hs : sat ν μ M S) (hJ : Jm R W M0 M) (k : ∀ K ∈ Ks, kh l (pI g id) P kc ks sh pr (Jm R W M0) ν μ K) : AW l (pI g id) P kc ks pc (lvq ν μ lv) (stq ν μ st) sh M := by
  simp only [sx] at h
  split at h
  · next v he =>
      replace h := bif_some2 h
      obtain ⟨h1, h⟩ := h
      rw [Bool.and_eq_true] at h1
      obtain ⟨h1, h2⟩ := h1
      have e1 := Nat.eq_of_beq_eq_true h1
      subst e1
      cases h
      have hk := one_k k agq.refl hs hJ
      have hl : lk (lvq ν μ lv) q = some (cq ν μ v) := by rw [lk_q, he]; rfl
      obtain ⟨x, hx⟩ := isQ_ok ν μ h2
      rw [hx] at hl
      simp only [stq, List.map_cons, hx] at hk
      exact AW.iload hd hl hk
  · cases h
theorem sx_lload_n {l : aL} {g : aPg} {R : sR} {W : sW} {sh : aH} {pr : List Value} {id pc len kc ks : Nat} {lv : List (Nat × Value)} {st : List Value} {S : sS} {Ks : List sK} {P : aP} {ν : Nat → Int32} {μ : Nat → Int64} {M0 M : aM} {q : Fin 4} (G : pgOk g) (hd : decode (iC (pI g id)) pc = .ok (.lload_n q, len)) (h : sx g R W sh pr id pc (.lload_n q) len lv st S = some Ks) (hs : sat ν μ M S) (hJ : Jm R W M0 M) (k : ∀ K ∈ Ks, kh l (pI g id) P kc ks sh pr (Jm R W M0) ν μ K) : AW l (pI g id) P kc ks pc (lvq ν μ lv) (stq ν μ st) sh M := by
  simp only [sx] at h
  split at h
  · next v he =>
      replace h := bif_some2 h
      obtain ⟨h1, h⟩ := h
      rw [Bool.and_eq_true] at h1
      obtain ⟨h1, h2⟩ := h1
      have e1 := Nat.eq_of_beq_eq_true h1
      subst e1
      cases h
      have hk := one_k k agq.refl hs hJ
      have hl : lk (lvq ν μ lv) q = some (cq ν μ v) := by rw [lk_q, he]; rfl
      obtain ⟨x, hx⟩ := isL_ok ν μ h2
      rw [hx] at hl
      simp only [stq, List.map_cons, hx] at hk
      exact AW.lload_n hd hl hk
  · cases h
theorem sx_lload {l : aL} {g : aPg} {R : sR} {W : sW} {sh : aH} {pr : List Value} {id pc len kc ks : Nat} {lv : List (Nat × Value)} {st : List Value} {S : sS} {Ks : List sK} {P : aP} {ν : Nat → Int32} {μ : Nat → Int64} {M0 M : aM} {q : Nat} (G : pgOk g) (hd : decode (iC (pI g id)) pc = .ok (.lload q, len)) (h : sx g R W sh pr id pc (.lload q) len lv st S = some Ks) (hs : sat ν μ M S) (hJ : Jm R W M0 M) (k : ∀ K ∈ Ks, kh l (pI g id) P kc ks sh pr (Jm R W M0) ν μ K) : AW l (pI g id) P kc ks pc (lvq ν μ lv) (stq ν μ st) sh M := by
  simp only [sx] at h
  split at h
  · next v he =>
      replace h := bif_some2 h
      obtain ⟨h1, h⟩ := h
      rw [Bool.and_eq_true] at h1
      obtain ⟨h1, h2⟩ := h1
      have e1 := Nat.eq_of_beq_eq_true h1
      subst e1
      cases h
      have hk := one_k k agq.refl hs hJ
      have hl : lk (lvq ν μ lv) q = some (cq ν μ v) := by rw [lk_q, he]; rfl
      obtain ⟨x, hx⟩ := isL_ok ν μ h2
      rw [hx] at hl
      simp only [stq, List.map_cons, hx] at hk
      exact AW.lload hd hl hk
  · cases h
theorem sx_aload_n {l : aL} {g : aPg} {R : sR} {W : sW} {sh : aH} {pr : List Value} {id pc len kc ks : Nat} {lv : List (Nat × Value)} {st : List Value} {S : sS} {Ks : List sK} {P : aP} {ν : Nat → Int32} {μ : Nat → Int64} {M0 M : aM} {q : Fin 4} (G : pgOk g) (hd : decode (iC (pI g id)) pc = .ok (.aload_n q, len)) (h : sx g R W sh pr id pc (.aload_n q) len lv st S = some Ks) (hs : sat ν μ M S) (hJ : Jm R W M0 M) (k : ∀ K ∈ Ks, kh l (pI g id) P kc ks sh pr (Jm R W M0) ν μ K) : AW l (pI g id) P kc ks pc (lvq ν μ lv) (stq ν μ st) sh M := by
  simp only [sx] at h
  split at h
  · next v he =>
      replace h := bif_some2 h
      obtain ⟨h1, h⟩ := h
      rw [Bool.and_eq_true] at h1
      obtain ⟨h1, h2⟩ := h1
      have e1 := Nat.eq_of_beq_eq_true h1
      subst e1
      cases h
      have hk := one_k k agq.refl hs hJ
      have hl : lk (lvq ν μ lv) q = some (cq ν μ v) := by rw [lk_q, he]; rfl
      exact AW.aload_n hd hl (by rw [isR_q ν μ h2]; exact h2) hk
  · cases h
theorem sx_aload {l : aL} {g : aPg} {R : sR} {W : sW} {sh : aH} {pr : List Value} {id pc len kc ks : Nat} {lv : List (Nat × Value)} {st : List Value} {S : sS} {Ks : List sK} {P : aP} {ν : Nat → Int32} {μ : Nat → Int64} {M0 M : aM} {q : Nat} (G : pgOk g) (hd : decode (iC (pI g id)) pc = .ok (.aload q, len)) (h : sx g R W sh pr id pc (.aload q) len lv st S = some Ks) (hs : sat ν μ M S) (hJ : Jm R W M0 M) (k : ∀ K ∈ Ks, kh l (pI g id) P kc ks sh pr (Jm R W M0) ν μ K) : AW l (pI g id) P kc ks pc (lvq ν μ lv) (stq ν μ st) sh M := by
  simp only [sx] at h
  split at h
  · next v he =>
      replace h := bif_some2 h
      obtain ⟨h1, h⟩ := h
      rw [Bool.and_eq_true] at h1
      obtain ⟨h1, h2⟩ := h1
      have e1 := Nat.eq_of_beq_eq_true h1
      subst e1
      cases h
      have hk := one_k k agq.refl hs hJ
      have hl : lk (lvq ν μ lv) q = some (cq ν μ v) := by rw [lk_q, he]; rfl
      exact AW.aload hd hl (by rw [isR_q ν μ h2]; exact h2) hk
  · cases h
theorem sx_istore_n {l : aL} {g : aPg} {R : sR} {W : sW} {sh : aH} {pr : List Value} {id pc len kc ks : Nat} {lv : List (Nat × Value)} {st : List Value} {S : sS} {Ks : List sK} {P : aP} {ν : Nat → Int32} {μ : Nat → Int64} {M0 M : aM} {q : Fin 4} (G : pgOk g) (hd : decode (iC (pI g id)) pc = .ok (.istore_n q, len)) (h : sx g R W sh pr id pc (.istore_n q) len lv st S = some Ks) (hs : sat ν μ M S) (hJ : Jm R W M0 M) (k : ∀ K ∈ Ks, kh l (pI g id) P kc ks sh pr (Jm R W M0) ν μ K) : AW l (pI g id) P kc ks pc (lvq ν μ lv) (stq ν μ st) sh M := by
  simp only [sx] at h
  split at h
  · next v st =>
      replace h := bif_some2 h
      obtain ⟨h1, h⟩ := h
      rw [Bool.and_eq_true, Bool.and_eq_true] at h1
      obtain ⟨h1, h2, h3⟩ := h1
      have e1 := Nat.eq_of_beq_eq_true h1
      subst e1
      cases h
      have hk := one_k k agq.refl hs hJ
      rw [← s1_q] at hk
      obtain ⟨x, hx⟩ := isQ_ok ν μ h2
      rw [hx] at hk
      simp only [stq, List.map_cons, hx]
      exact AW.istore_n hd (Nat.blt_eq.mp h3) hk
  · cases h
theorem sx_istore {l : aL} {g : aPg} {R : sR} {W : sW} {sh : aH} {pr : List Value} {id pc len kc ks : Nat} {lv : List (Nat × Value)} {st : List Value} {S : sS} {Ks : List sK} {P : aP} {ν : Nat → Int32} {μ : Nat → Int64} {M0 M : aM} {q : Nat} (G : pgOk g) (hd : decode (iC (pI g id)) pc = .ok (.istore q, len)) (h : sx g R W sh pr id pc (.istore q) len lv st S = some Ks) (hs : sat ν μ M S) (hJ : Jm R W M0 M) (k : ∀ K ∈ Ks, kh l (pI g id) P kc ks sh pr (Jm R W M0) ν μ K) : AW l (pI g id) P kc ks pc (lvq ν μ lv) (stq ν μ st) sh M := by
  simp only [sx] at h
  split at h
  · next v st =>
      replace h := bif_some2 h
      obtain ⟨h1, h⟩ := h
      rw [Bool.and_eq_true, Bool.and_eq_true] at h1
      obtain ⟨h1, h2, h3⟩ := h1
      have e1 := Nat.eq_of_beq_eq_true h1
      subst e1
      cases h
      have hk := one_k k agq.refl hs hJ
      rw [← s1_q] at hk
      obtain ⟨x, hx⟩ := isQ_ok ν μ h2
      rw [hx] at hk
      simp only [stq, List.map_cons, hx]
      exact AW.istore hd (Nat.blt_eq.mp h3) hk
  · cases h
theorem sx_lstore_n {l : aL} {g : aPg} {R : sR} {W : sW} {sh : aH} {pr : List Value} {id pc len kc ks : Nat} {lv : List (Nat × Value)} {st : List Value} {S : sS} {Ks : List sK} {P : aP} {ν : Nat → Int32} {μ : Nat → Int64} {M0 M : aM} {q : Fin 4} (G : pgOk g) (hd : decode (iC (pI g id)) pc = .ok (.lstore_n q, len)) (h : sx g R W sh pr id pc (.lstore_n q) len lv st S = some Ks) (hs : sat ν μ M S) (hJ : Jm R W M0 M) (k : ∀ K ∈ Ks, kh l (pI g id) P kc ks sh pr (Jm R W M0) ν μ K) : AW l (pI g id) P kc ks pc (lvq ν μ lv) (stq ν μ st) sh M := by
  simp only [sx] at h
  split at h
  · next v st =>
      replace h := bif_some2 h
      obtain ⟨h1, h⟩ := h
      rw [Bool.and_eq_true, Bool.and_eq_true] at h1
      obtain ⟨h1, h2, h3⟩ := h1
      have e1 := Nat.eq_of_beq_eq_true h1
      subst e1
      cases h
      have hk := one_k k agq.refl hs hJ
      rw [← s2_q] at hk
      obtain ⟨x, hx⟩ := isL_ok ν μ h2
      rw [hx] at hk
      simp only [stq, List.map_cons, hx]
      exact AW.lstore_n hd (Nat.blt_eq.mp h3) hk
  · cases h
theorem sx_lstore {l : aL} {g : aPg} {R : sR} {W : sW} {sh : aH} {pr : List Value} {id pc len kc ks : Nat} {lv : List (Nat × Value)} {st : List Value} {S : sS} {Ks : List sK} {P : aP} {ν : Nat → Int32} {μ : Nat → Int64} {M0 M : aM} {q : Nat} (G : pgOk g) (hd : decode (iC (pI g id)) pc = .ok (.lstore q, len)) (h : sx g R W sh pr id pc (.lstore q) len lv st S = some Ks) (hs : sat ν μ M S) (hJ : Jm R W M0 M) (k : ∀ K ∈ Ks, kh l (pI g id) P kc ks sh pr (Jm R W M0) ν μ K) : AW l (pI g id) P kc ks pc (lvq ν μ lv) (stq ν μ st) sh M := by
  simp only [sx] at h
  split at h
  · next v st =>
      replace h := bif_some2 h
      obtain ⟨h1, h⟩ := h
      rw [Bool.and_eq_true, Bool.and_eq_true] at h1
      obtain ⟨h1, h2, h3⟩ := h1
      have e1 := Nat.eq_of_beq_eq_true h1
      subst e1
      cases h
      have hk := one_k k agq.refl hs hJ
      rw [← s2_q] at hk
      obtain ⟨x, hx⟩ := isL_ok ν μ h2
      rw [hx] at hk
      simp only [stq, List.map_cons, hx]
      exact AW.lstore hd (Nat.blt_eq.mp h3) hk
  · cases h
theorem sx_astore_n {l : aL} {g : aPg} {R : sR} {W : sW} {sh : aH} {pr : List Value} {id pc len kc ks : Nat} {lv : List (Nat × Value)} {st : List Value} {S : sS} {Ks : List sK} {P : aP} {ν : Nat → Int32} {μ : Nat → Int64} {M0 M : aM} {q : Fin 4} (G : pgOk g) (hd : decode (iC (pI g id)) pc = .ok (.astore_n q, len)) (h : sx g R W sh pr id pc (.astore_n q) len lv st S = some Ks) (hs : sat ν μ M S) (hJ : Jm R W M0 M) (k : ∀ K ∈ Ks, kh l (pI g id) P kc ks sh pr (Jm R W M0) ν μ K) : AW l (pI g id) P kc ks pc (lvq ν μ lv) (stq ν μ st) sh M := by
  simp only [sx] at h
  split at h
  · next v st =>
      replace h := bif_some2 h
      obtain ⟨h1, h⟩ := h
      rw [Bool.and_eq_true, Bool.and_eq_true] at h1
      obtain ⟨h1, h2, h3⟩ := h1
      have e1 := Nat.eq_of_beq_eq_true h1
      subst e1
      cases h
      have hk := one_k k agq.refl hs hJ
      rw [← s1_q] at hk
      exact AW.astore_n hd (by rw [isR_q ν μ h2]; exact h2) (Nat.blt_eq.mp h3) hk
  · cases h
theorem sx_astore {l : aL} {g : aPg} {R : sR} {W : sW} {sh : aH} {pr : List Value} {id pc len kc ks : Nat} {lv : List (Nat × Value)} {st : List Value} {S : sS} {Ks : List sK} {P : aP} {ν : Nat → Int32} {μ : Nat → Int64} {M0 M : aM} {q : Nat} (G : pgOk g) (hd : decode (iC (pI g id)) pc = .ok (.astore q, len)) (h : sx g R W sh pr id pc (.astore q) len lv st S = some Ks) (hs : sat ν μ M S) (hJ : Jm R W M0 M) (k : ∀ K ∈ Ks, kh l (pI g id) P kc ks sh pr (Jm R W M0) ν μ K) : AW l (pI g id) P kc ks pc (lvq ν μ lv) (stq ν μ st) sh M := by
  simp only [sx] at h
  split at h
  · next v st =>
      replace h := bif_some2 h
      obtain ⟨h1, h⟩ := h
      rw [Bool.and_eq_true, Bool.and_eq_true] at h1
      obtain ⟨h1, h2, h3⟩ := h1
      have e1 := Nat.eq_of_beq_eq_true h1
      subst e1
      cases h
      have hk := one_k k agq.refl hs hJ
      rw [← s1_q] at hk
      exact AW.astore hd (by rw [isR_q ν μ h2]; exact h2) (Nat.blt_eq.mp h3) hk
  · cases h
theorem sx_iinc {l : aL} {g : aPg} {R : sR} {W : sW} {sh : aH} {pr : List Value} {id pc len kc ks : Nat} {lv : List (Nat × Value)} {st : List Value} {S : sS} {Ks : List sK} {P : aP} {ν : Nat → Int32} {μ : Nat → Int64} {M0 M : aM} {q : Nat} {n : Int} (G : pgOk g) (hd : decode (iC (pI g id)) pc = .ok (.iinc q n, len)) (h : sx g R W sh pr id pc (.iinc q n) len lv st S = some Ks) (hs : sat ν μ M S) (hJ : Jm R W M0 M) (k : ∀ K ∈ Ks, kh l (pI g id) P kc ks sh pr (Jm R W M0) ν μ K) : AW l (pI g id) P kc ks pc (lvq ν μ lv) (stq ν μ st) sh M := by
  simp only [sx] at h
  split at h
  · next v he =>
      split at h
      · next a ha =>
          replace h := bif_some2 h
          obtain ⟨h1, h⟩ := h
          simp only [Bool.and_eq_true, decide_eq_true_eq] at h1
          obtain ⟨h1, h2, h3, h4⟩ := h1
          have e1 := Nat.eq_of_beq_eq_true h1
          subst e1
          split at h
          · next w S1 hf =>
              cases h
              obtain ⟨x, hx, hi⟩ := ivS_ok hs ha
              have hl : lk (lvq ν μ lv) q = some (.int x) := by rw [lk_q, he, ← hx]; rfl
              have en : (Int32.ofInt n).toInt = n := Int32.toInt_ofInt_of_le (by omega) (by omega)
              have ey : (x + Int32.ofInt n).toInt = (x.toInt + n).bmod (2 ^ 32) := by rw [Int32.toInt_add, en]
              obtain ⟨ν', g1, g2, g3, g4, g5, -⟩ := fI_ok hf (add_in hi (show inI (Int32.ofInt n) (n, n) by rw [inI, en]; exact ⟨Int.le_refl _, Int.le_refl _⟩)) (dAdd_ok hs hx hi ey) hs
              have hk := one_k k (agq.tail g1) g4 hJ
              rw [← s1_q, g5, g2, g3] at hk
              exact AW.iinc hd hl (Nat.blt_eq.mp h2) hk
          · cases h
      · cases h
  · cases h
theorem sx_iadd {l : aL} {g : aPg} {R : sR} {W : sW} {sh : aH} {pr : List Value} {id pc len kc ks : Nat} {lv : List (Nat × Value)} {st : List Value} {S : sS} {Ks : List sK} {P : aP} {ν : Nat → Int32} {μ : Nat → Int64} {M0 M : aM} (G : pgOk g) (hd : decode (iC (pI g id)) pc = .ok (.iadd, len)) (h : sx g R W sh pr id pc (.iadd) len lv st S = some Ks) (hs : sat ν μ M S) (hJ : Jm R W M0 M) (k : ∀ K ∈ Ks, kh l (pI g id) P kc ks sh pr (Jm R W M0) ν μ K) : AW l (pI g id) P kc ks pc (lvq ν μ lv) (stq ν μ st) sh M := by
  simp only [sx] at h
  split at h
  · next y x st1 =>
      replace h := bif_some2 h
      obtain ⟨h1, h⟩ := h
      have e1 := Nat.eq_of_beq_eq_true h1
      subst e1
      cases h
      exact AW.iadd hd (one_k k agq.refl hs hJ)
  · next v2 v1 st1 _ =>
      split at h
      · next a ha =>
          split at h
          · next b hb =>
            replace h := bif_some2 h
            obtain ⟨h1, h⟩ := h
            have e1 := Nat.eq_of_beq_eq_true h1
            subst e1
            split at h
            · next w S1 hf =>
                cases h
                obtain ⟨x, hx, hi⟩ := ivS_ok hs ha
                obtain ⟨y, hy, hj⟩ := ivS_ok hs hb
                obtain ⟨ν', g1, g2, g3, g4, g5, -⟩ := fI_ok (x := x + y) hf (add_in hi hj) (dAd2_ok hs hx hy hi hj) hs
                have hk := one_k k g1 g4 hJ
                simp only [stq, List.map_cons, g5] at hk
                simp only [stq, List.map_cons, List.cons.injEq] at g3
                rw [g2, g3.2.2] at hk
                simp only [stq, List.map_cons, hx, hy]
                exact AW.iadd hd hk
            · cases h
          · cases h
      · cases h
  · cases h
theorem sx_isub {l : aL} {g : aPg} {R : sR} {W : sW} {sh : aH} {pr : List Value} {id pc len kc ks : Nat} {lv : List (Nat × Value)} {st : List Value} {S : sS} {Ks : List sK} {P : aP} {ν : Nat → Int32} {μ : Nat → Int64} {M0 M : aM} (G : pgOk g) (hd : decode (iC (pI g id)) pc = .ok (.isub, len)) (h : sx g R W sh pr id pc (.isub) len lv st S = some Ks) (hs : sat ν μ M S) (hJ : Jm R W M0 M) (k : ∀ K ∈ Ks, kh l (pI g id) P kc ks sh pr (Jm R W M0) ν μ K) : AW l (pI g id) P kc ks pc (lvq ν μ lv) (stq ν μ st) sh M := by
  simp only [sx] at h
  split at h
  · next y x st1 =>
      replace h := bif_some2 h
      obtain ⟨h1, h⟩ := h
      have e1 := Nat.eq_of_beq_eq_true h1
      subst e1
      cases h
      exact AW.isub hd (one_k k agq.refl hs hJ)
  · next v2 v1 st1 _ =>
      split at h
      · next a ha =>
          split at h
          · next b hb =>
            replace h := bif_some2 h
            obtain ⟨h1, h⟩ := h
            have e1 := Nat.eq_of_beq_eq_true h1
            subst e1
            split at h
            · next w S1 hf =>
                cases h
                obtain ⟨x, hx, hi⟩ := ivS_ok hs ha
                obtain ⟨y, hy, hj⟩ := ivS_ok hs hb
                obtain ⟨ν', g1, g2, g3, g4, g5, -⟩ := fI_ok (x := x - y) hf (sub_in2 hs hx hy hi hj) (dSu2_ok hs hx hy hi) hs
                have hk := one_k k g1 g4 hJ
                simp only [stq, List.map_cons, g5] at hk
                simp only [stq, List.map_cons, List.cons.injEq] at g3
                rw [g2, g3.2.2] at hk
                simp only [stq, List.map_cons, hx, hy]
                exact AW.isub hd hk
            · cases h
          · cases h
      · cases h
  · cases h
theorem sx_imul {l : aL} {g : aPg} {R : sR} {W : sW} {sh : aH} {pr : List Value} {id pc len kc ks : Nat} {lv : List (Nat × Value)} {st : List Value} {S : sS} {Ks : List sK} {P : aP} {ν : Nat → Int32} {μ : Nat → Int64} {M0 M : aM} (G : pgOk g) (hd : decode (iC (pI g id)) pc = .ok (.imul, len)) (h : sx g R W sh pr id pc (.imul) len lv st S = some Ks) (hs : sat ν μ M S) (hJ : Jm R W M0 M) (k : ∀ K ∈ Ks, kh l (pI g id) P kc ks sh pr (Jm R W M0) ν μ K) : AW l (pI g id) P kc ks pc (lvq ν μ lv) (stq ν μ st) sh M := by
  simp only [sx] at h
  split at h
  · next y x st1 =>
      replace h := bif_some2 h
      obtain ⟨h1, h⟩ := h
      have e1 := Nat.eq_of_beq_eq_true h1
      subst e1
      cases h
      exact AW.imul hd (one_k k agq.refl hs hJ)
  · next v2 v1 st1 _ =>
      split at h
      · next a ha =>
          split at h
          · next b hb =>
            replace h := bif_some2 h
            obtain ⟨h1, h⟩ := h
            have e1 := Nat.eq_of_beq_eq_true h1
            subst e1
            split at h
            · next w S1 hf =>
                cases h
                obtain ⟨x, hx, hi⟩ := ivS_ok hs ha
                obtain ⟨y, hy, hj⟩ := ivS_ok hs hb
                obtain ⟨ν', g1, g2, g3, g4, g5, -⟩ := fI_ok (x := x * y) hf (mul_in hi hj) (fun _ h => by cases h) hs
                have hk := one_k k g1 g4 hJ
                simp only [stq, List.map_cons, g5] at hk
                simp only [stq, List.map_cons, List.cons.injEq] at g3
                rw [g2, g3.2.2] at hk
                simp only [stq, List.map_cons, hx, hy]
                exact AW.imul hd hk
            · cases h
          · cases h
      · cases h
  · cases h
theorem sx_iand {l : aL} {g : aPg} {R : sR} {W : sW} {sh : aH} {pr : List Value} {id pc len kc ks : Nat} {lv : List (Nat × Value)} {st : List Value} {S : sS} {Ks : List sK} {P : aP} {ν : Nat → Int32} {μ : Nat → Int64} {M0 M : aM} (G : pgOk g) (hd : decode (iC (pI g id)) pc = .ok (.iand, len)) (h : sx g R W sh pr id pc (.iand) len lv st S = some Ks) (hs : sat ν μ M S) (hJ : Jm R W M0 M) (k : ∀ K ∈ Ks, kh l (pI g id) P kc ks sh pr (Jm R W M0) ν μ K) : AW l (pI g id) P kc ks pc (lvq ν μ lv) (stq ν μ st) sh M := by
  simp only [sx] at h
  split at h
  · next y x st1 =>
      replace h := bif_some2 h
      obtain ⟨h1, h⟩ := h
      have e1 := Nat.eq_of_beq_eq_true h1
      subst e1
      cases h
      exact AW.iand hd (one_k k agq.refl hs hJ)
  · next v2 v1 st1 _ =>
      split at h
      · next a ha =>
          split at h
          · next b hb =>
            replace h := bif_some2 h
            obtain ⟨h1, h⟩ := h
            have e1 := Nat.eq_of_beq_eq_true h1
            subst e1
            split at h
            · next w S1 hf =>
                cases h
                obtain ⟨x, hx, hi⟩ := ivS_ok hs ha
                obtain ⟨y, hy, hj⟩ := ivS_ok hs hb
                obtain ⟨ν', g1, g2, g3, g4, g5, -⟩ := fI_ok (x := x &&& y) hf (and_in hi hj) (dAn2_ok hs hx hy hi hj) hs
                have hk := one_k k g1 g4 hJ
                simp only [stq, List.map_cons, g5] at hk
                simp only [stq, List.map_cons, List.cons.injEq] at g3
                rw [g2, g3.2.2] at hk
                simp only [stq, List.map_cons, hx, hy]
                exact AW.iand hd hk
            · cases h
          · cases h
      · cases h
  · cases h
theorem sx_ior {l : aL} {g : aPg} {R : sR} {W : sW} {sh : aH} {pr : List Value} {id pc len kc ks : Nat} {lv : List (Nat × Value)} {st : List Value} {S : sS} {Ks : List sK} {P : aP} {ν : Nat → Int32} {μ : Nat → Int64} {M0 M : aM} (G : pgOk g) (hd : decode (iC (pI g id)) pc = .ok (.ior, len)) (h : sx g R W sh pr id pc (.ior) len lv st S = some Ks) (hs : sat ν μ M S) (hJ : Jm R W M0 M) (k : ∀ K ∈ Ks, kh l (pI g id) P kc ks sh pr (Jm R W M0) ν μ K) : AW l (pI g id) P kc ks pc (lvq ν μ lv) (stq ν μ st) sh M := by
  simp only [sx] at h
  split at h
  · next y x st1 =>
      replace h := bif_some2 h
      obtain ⟨h1, h⟩ := h
      have e1 := Nat.eq_of_beq_eq_true h1
      subst e1
      cases h
      exact AW.ior hd (one_k k agq.refl hs hJ)
  · next v2 v1 st1 _ =>
      split at h
      · next a ha =>
          split at h
          · next b hb =>
            replace h := bif_some2 h
            obtain ⟨h1, h⟩ := h
            have e1 := Nat.eq_of_beq_eq_true h1
            subst e1
            split at h
            · next w S1 hf =>
                cases h
                obtain ⟨x, hx, hi⟩ := ivS_ok hs ha
                obtain ⟨y, hy, hj⟩ := ivS_ok hs hb
                obtain ⟨ν', g1, g2, g3, g4, g5, -⟩ := fI_ok (x := x ||| y) hf (or_in hi hj) (fun _ h => by cases h) hs
                have hk := one_k k g1 g4 hJ
                simp only [stq, List.map_cons, g5] at hk
                simp only [stq, List.map_cons, List.cons.injEq] at g3
                rw [g2, g3.2.2] at hk
                simp only [stq, List.map_cons, hx, hy]
                exact AW.ior hd hk
            · cases h
          · cases h
      · cases h
  · cases h
theorem sx_ixor {l : aL} {g : aPg} {R : sR} {W : sW} {sh : aH} {pr : List Value} {id pc len kc ks : Nat} {lv : List (Nat × Value)} {st : List Value} {S : sS} {Ks : List sK} {P : aP} {ν : Nat → Int32} {μ : Nat → Int64} {M0 M : aM} (G : pgOk g) (hd : decode (iC (pI g id)) pc = .ok (.ixor, len)) (h : sx g R W sh pr id pc (.ixor) len lv st S = some Ks) (hs : sat ν μ M S) (hJ : Jm R W M0 M) (k : ∀ K ∈ Ks, kh l (pI g id) P kc ks sh pr (Jm R W M0) ν μ K) : AW l (pI g id) P kc ks pc (lvq ν μ lv) (stq ν μ st) sh M := by
  simp only [sx] at h
  split at h
  · next y x st1 =>
      replace h := bif_some2 h
      obtain ⟨h1, h⟩ := h
      have e1 := Nat.eq_of_beq_eq_true h1
      subst e1
      cases h
      exact AW.ixor hd (one_k k agq.refl hs hJ)
  · next v2 v1 st1 _ =>
      split at h
      · next a ha =>
          split at h
          · next b hb =>
            replace h := bif_some2 h
            obtain ⟨h1, h⟩ := h
            have e1 := Nat.eq_of_beq_eq_true h1
            subst e1
            split at h
            · next w S1 hf =>
                cases h
                obtain ⟨x, hx, hi⟩ := ivS_ok hs ha
                obtain ⟨y, hy, hj⟩ := ivS_ok hs hb
                obtain ⟨ν', g1, g2, g3, g4, g5, -⟩ := fI_ok (x := x ^^^ y) hf (xor_in hi hj) (fun _ h => by cases h) hs
                have hk := one_k k g1 g4 hJ
                simp only [stq, List.map_cons, g5] at hk
                simp only [stq, List.map_cons, List.cons.injEq] at g3
                rw [g2, g3.2.2] at hk
                simp only [stq, List.map_cons, hx, hy]
                exact AW.ixor hd hk
            · cases h
          · cases h
      · cases h
  · cases h
theorem sx_ishl {l : aL} {g : aPg} {R : sR} {W : sW} {sh : aH} {pr : List Value} {id pc len kc ks : Nat} {lv : List (Nat × Value)} {st : List Value} {S : sS} {Ks : List sK} {P : aP} {ν : Nat → Int32} {μ : Nat → Int64} {M0 M : aM} (G : pgOk g) (hd : decode (iC (pI g id)) pc = .ok (.ishl, len)) (h : sx g R W sh pr id pc (.ishl) len lv st S = some Ks) (hs : sat ν μ M S) (hJ : Jm R W M0 M) (k : ∀ K ∈ Ks, kh l (pI g id) P kc ks sh pr (Jm R W M0) ν μ K) : AW l (pI g id) P kc ks pc (lvq ν μ lv) (stq ν μ st) sh M := by
  simp only [sx] at h
  split at h
  · next y x st1 =>
      replace h := bif_some2 h
      obtain ⟨h1, h⟩ := h
      have e1 := Nat.eq_of_beq_eq_true h1
      subst e1
      cases h
      exact AW.ishl hd (one_k k agq.refl hs hJ)
  · next v2 v1 st1 _ =>
      split at h
      · next a ha =>
          split at h
          · next b hb =>
            replace h := bif_some2 h
            obtain ⟨h1, h⟩ := h
            have e1 := Nat.eq_of_beq_eq_true h1
            subst e1
            split at h
            · next w S1 hf =>
                cases h
                obtain ⟨x, hx, hi⟩ := ivS_ok hs ha
                obtain ⟨y, hy, hj⟩ := ivS_ok hs hb
                obtain ⟨ν', g1, g2, g3, g4, g5, -⟩ := fI_ok (x := x <<< (y &&& 31)) hf (shl_in hi hj) (fun _ h => by cases h) hs
                have hk := one_k k g1 g4 hJ
                simp only [stq, List.map_cons, g5] at hk
                simp only [stq, List.map_cons, List.cons.injEq] at g3
                rw [g2, g3.2.2] at hk
                simp only [stq, List.map_cons, hx, hy]
                exact AW.ishl hd hk
            · cases h
          · cases h
      · cases h
  · cases h
theorem sx_ishr {l : aL} {g : aPg} {R : sR} {W : sW} {sh : aH} {pr : List Value} {id pc len kc ks : Nat} {lv : List (Nat × Value)} {st : List Value} {S : sS} {Ks : List sK} {P : aP} {ν : Nat → Int32} {μ : Nat → Int64} {M0 M : aM} (G : pgOk g) (hd : decode (iC (pI g id)) pc = .ok (.ishr, len)) (h : sx g R W sh pr id pc (.ishr) len lv st S = some Ks) (hs : sat ν μ M S) (hJ : Jm R W M0 M) (k : ∀ K ∈ Ks, kh l (pI g id) P kc ks sh pr (Jm R W M0) ν μ K) : AW l (pI g id) P kc ks pc (lvq ν μ lv) (stq ν μ st) sh M := by
  simp only [sx] at h
  split at h
  · next y x st1 =>
      replace h := bif_some2 h
      obtain ⟨h1, h⟩ := h
      have e1 := Nat.eq_of_beq_eq_true h1
      subst e1
      cases h
      exact AW.ishr hd (one_k k agq.refl hs hJ)
  · next v2 v1 st1 _ =>
      split at h
      · next a ha =>
          split at h
          · next b hb =>
            replace h := bif_some2 h
            obtain ⟨h1, h⟩ := h
            have e1 := Nat.eq_of_beq_eq_true h1
            subst e1
            split at h
            · next w S1 hf =>
                cases h
                obtain ⟨x, hx, hi⟩ := ivS_ok hs ha
                obtain ⟨y, hy, hj⟩ := ivS_ok hs hb
                obtain ⟨ν', g1, g2, g3, g4, g5, -⟩ := fI_ok (x := x >>> (y &&& 31)) hf (shr_in hi hj) (fun _ h => by cases h) hs
                have hk := one_k k g1 g4 hJ
                simp only [stq, List.map_cons, g5] at hk
                simp only [stq, List.map_cons, List.cons.injEq] at g3
                rw [g2, g3.2.2] at hk
                simp only [stq, List.map_cons, hx, hy]
                exact AW.ishr hd hk
            · cases h
          · cases h
      · cases h
  · cases h
theorem sx_iushr {l : aL} {g : aPg} {R : sR} {W : sW} {sh : aH} {pr : List Value} {id pc len kc ks : Nat} {lv : List (Nat × Value)} {st : List Value} {S : sS} {Ks : List sK} {P : aP} {ν : Nat → Int32} {μ : Nat → Int64} {M0 M : aM} (G : pgOk g) (hd : decode (iC (pI g id)) pc = .ok (.iushr, len)) (h : sx g R W sh pr id pc (.iushr) len lv st S = some Ks) (hs : sat ν μ M S) (hJ : Jm R W M0 M) (k : ∀ K ∈ Ks, kh l (pI g id) P kc ks sh pr (Jm R W M0) ν μ K) : AW l (pI g id) P kc ks pc (lvq ν μ lv) (stq ν μ st) sh M := by
  simp only [sx] at h
  split at h
  · next y x st1 =>
      replace h := bif_some2 h
      obtain ⟨h1, h⟩ := h
      have e1 := Nat.eq_of_beq_eq_true h1
      subst e1
      cases h
      exact AW.iushr hd (one_k k agq.refl hs hJ)
  · next v2 v1 st1 _ =>
      split at h
      · next a ha =>
          split at h
          · next b hb =>
            replace h := bif_some2 h
            obtain ⟨h1, h⟩ := h
            have e1 := Nat.eq_of_beq_eq_true h1
            subst e1
            split at h
            · next w S1 hf =>
                cases h
                obtain ⟨x, hx, hi⟩ := ivS_ok hs ha
                obtain ⟨y, hy, hj⟩ := ivS_ok hs hb
                obtain ⟨ν', g1, g2, g3, g4, g5, -⟩ := fI_ok (x := (x.toUInt32 >>> (y.toUInt32 &&& Int32.toUInt32 31)).toInt32) hf (ful_in hi hj) (fun _ h => by cases h) hs
                have hk := one_k k g1 g4 hJ
                simp only [stq, List.map_cons, g5] at hk
                simp only [stq, List.map_cons, List.cons.injEq] at g3
                rw [g2, g3.2.2] at hk
                simp only [stq, List.map_cons, hx, hy]
                exact AW.iushr hd hk
            · cases h
          · cases h
      · cases h
  · cases h
theorem sx_idiv {l : aL} {g : aPg} {R : sR} {W : sW} {sh : aH} {pr : List Value} {id pc len kc ks : Nat} {lv : List (Nat × Value)} {st : List Value} {S : sS} {Ks : List sK} {P : aP} {ν : Nat → Int32} {μ : Nat → Int64} {M0 M : aM} (G : pgOk g) (hd : decode (iC (pI g id)) pc = .ok (.idiv, len)) (h : sx g R W sh pr id pc (.idiv) len lv st S = some Ks) (hs : sat ν μ M S) (hJ : Jm R W M0 M) (k : ∀ K ∈ Ks, kh l (pI g id) P kc ks sh pr (Jm R W M0) ν μ K) : AW l (pI g id) P kc ks pc (lvq ν μ lv) (stq ν μ st) sh M := by
  simp only [sx] at h
  split at h
  · next y x st1 =>
      replace h := bif_some2 h
      obtain ⟨h1, h⟩ := h
      rw [Bool.and_eq_true] at h1
      obtain ⟨h1, h5⟩ := h1
      have e1 := Nat.eq_of_beq_eq_true h1
      subst e1
      cases h
      exact AW.idiv hd (by simpa using h5) (one_k k agq.refl hs hJ)
  · next v2 v1 st1 _ =>
      split at h
      · next a ha =>
          split at h
          · next b hb =>
            replace h := bif_some2 h
            obtain ⟨h1, h⟩ := h
            rw [Bool.and_eq_true] at h1
            obtain ⟨h1, h5⟩ := h1
            have e1 := Nat.eq_of_beq_eq_true h1
            subst e1
            split at h
            · next w S1 hf =>
                cases h
                obtain ⟨x, hx, hi⟩ := ivS_ok hs ha
                obtain ⟨y, hy, hj⟩ := ivS_ok hs hb
                obtain ⟨ν', g1, g2, g3, g4, g5, -⟩ := fI_ok (x := x / y) hf (div_in hi hj) (fun _ h => by cases h) hs
                have hk := one_k k g1 g4 hJ
                simp only [stq, List.map_cons, g5] at hk
                simp only [stq, List.map_cons, List.cons.injEq] at g3
                rw [g2, g3.2.2] at hk
                simp only [stq, List.map_cons, hx, hy]
                exact AW.idiv hd (nzI_ok hj h5) hk
            · cases h
          · cases h
      · cases h
  · cases h
theorem sx_irem {l : aL} {g : aPg} {R : sR} {W : sW} {sh : aH} {pr : List Value} {id pc len kc ks : Nat} {lv : List (Nat × Value)} {st : List Value} {S : sS} {Ks : List sK} {P : aP} {ν : Nat → Int32} {μ : Nat → Int64} {M0 M : aM} (G : pgOk g) (hd : decode (iC (pI g id)) pc = .ok (.irem, len)) (h : sx g R W sh pr id pc (.irem) len lv st S = some Ks) (hs : sat ν μ M S) (hJ : Jm R W M0 M) (k : ∀ K ∈ Ks, kh l (pI g id) P kc ks sh pr (Jm R W M0) ν μ K) : AW l (pI g id) P kc ks pc (lvq ν μ lv) (stq ν μ st) sh M := by
  simp only [sx] at h
  split at h
  · next y x st1 =>
      replace h := bif_some2 h
      obtain ⟨h1, h⟩ := h
      rw [Bool.and_eq_true] at h1
      obtain ⟨h1, h5⟩ := h1
      have e1 := Nat.eq_of_beq_eq_true h1
      subst e1
      cases h
      exact AW.irem hd (by simpa using h5) (one_k k agq.refl hs hJ)
  · next v2 v1 st1 _ =>
      split at h
      · next a ha =>
          split at h
          · next b hb =>
            replace h := bif_some2 h
            obtain ⟨h1, h⟩ := h
            rw [Bool.and_eq_true] at h1
            obtain ⟨h1, h5⟩ := h1
            have e1 := Nat.eq_of_beq_eq_true h1
            subst e1
            split at h
            · next w S1 hf =>
                cases h
                obtain ⟨x, hx, hi⟩ := ivS_ok hs ha
                obtain ⟨y, hy, hj⟩ := ivS_ok hs hb
                obtain ⟨ν', g1, g2, g3, g4, g5, -⟩ := fI_ok (x := x - x / y * y) hf (rem_in hi hj) (fun _ h => by cases h) hs
                have hk := one_k k g1 g4 hJ
                simp only [stq, List.map_cons, g5] at hk
                simp only [stq, List.map_cons, List.cons.injEq] at g3
                rw [g2, g3.2.2] at hk
                simp only [stq, List.map_cons, hx, hy]
                exact AW.irem hd (nzI_ok hj h5) hk
            · cases h
          · cases h
      · cases h
  · cases h
theorem sx_ladd {l : aL} {g : aPg} {R : sR} {W : sW} {sh : aH} {pr : List Value} {id pc len kc ks : Nat} {lv : List (Nat × Value)} {st : List Value} {S : sS} {Ks : List sK} {P : aP} {ν : Nat → Int32} {μ : Nat → Int64} {M0 M : aM} (G : pgOk g) (hd : decode (iC (pI g id)) pc = .ok (.ladd, len)) (h : sx g R W sh pr id pc (.ladd) len lv st S = some Ks) (hs : sat ν μ M S) (hJ : Jm R W M0 M) (k : ∀ K ∈ Ks, kh l (pI g id) P kc ks sh pr (Jm R W M0) ν μ K) : AW l (pI g id) P kc ks pc (lvq ν μ lv) (stq ν μ st) sh M := by
  simp only [sx] at h
  split at h
  · next v2 v1 st1 =>
      replace h := bif_some2 h
      obtain ⟨h1, h⟩ := h
      simp only [Bool.and_eq_true] at h1
      obtain ⟨h1, h2, h3⟩ := h1
      have e1 := Nat.eq_of_beq_eq_true h1
      subst e1
      split at h
      · next w S1 hf =>
          cases h
          obtain ⟨x, hx⟩ := isL_ok ν μ h2
          obtain ⟨y, hy⟩ := isL_ok ν μ h3
          simp only [stq, List.map_cons, hx, hy]
          refine AW.ladd hd ?_
          obtain ⟨μ', g1, g2, g3, g4, g5⟩ := fJ_ok hf hs
          have hk := one_k k g1 g4 hJ
          simp only [stq, List.map_cons, g5] at hk
          simp only [stq, List.map_cons, List.cons.injEq] at g3
          rw [g2, g3.2.2] at hk
          exact hk
      · cases h
  · cases h
theorem sx_lsub {l : aL} {g : aPg} {R : sR} {W : sW} {sh : aH} {pr : List Value} {id pc len kc ks : Nat} {lv : List (Nat × Value)} {st : List Value} {S : sS} {Ks : List sK} {P : aP} {ν : Nat → Int32} {μ : Nat → Int64} {M0 M : aM} (G : pgOk g) (hd : decode (iC (pI g id)) pc = .ok (.lsub, len)) (h : sx g R W sh pr id pc (.lsub) len lv st S = some Ks) (hs : sat ν μ M S) (hJ : Jm R W M0 M) (k : ∀ K ∈ Ks, kh l (pI g id) P kc ks sh pr (Jm R W M0) ν μ K) : AW l (pI g id) P kc ks pc (lvq ν μ lv) (stq ν μ st) sh M := by
  simp only [sx] at h
  split at h
  · next v2 v1 st1 =>
      replace h := bif_some2 h
      obtain ⟨h1, h⟩ := h
      simp only [Bool.and_eq_true] at h1
      obtain ⟨h1, h2, h3⟩ := h1
      have e1 := Nat.eq_of_beq_eq_true h1
      subst e1
      split at h
      · next w S1 hf =>
          cases h
          obtain ⟨x, hx⟩ := isL_ok ν μ h2
          obtain ⟨y, hy⟩ := isL_ok ν μ h3
          simp only [stq, List.map_cons, hx, hy]
          refine AW.lsub hd ?_
          obtain ⟨μ', g1, g2, g3, g4, g5⟩ := fJ_ok hf hs
          have hk := one_k k g1 g4 hJ
          simp only [stq, List.map_cons, g5] at hk
          simp only [stq, List.map_cons, List.cons.injEq] at g3
          rw [g2, g3.2.2] at hk
          exact hk
      · cases h
  · cases h
theorem sx_lmul {l : aL} {g : aPg} {R : sR} {W : sW} {sh : aH} {pr : List Value} {id pc len kc ks : Nat} {lv : List (Nat × Value)} {st : List Value} {S : sS} {Ks : List sK} {P : aP} {ν : Nat → Int32} {μ : Nat → Int64} {M0 M : aM} (G : pgOk g) (hd : decode (iC (pI g id)) pc = .ok (.lmul, len)) (h : sx g R W sh pr id pc (.lmul) len lv st S = some Ks) (hs : sat ν μ M S) (hJ : Jm R W M0 M) (k : ∀ K ∈ Ks, kh l (pI g id) P kc ks sh pr (Jm R W M0) ν μ K) : AW l (pI g id) P kc ks pc (lvq ν μ lv) (stq ν μ st) sh M := by
  simp only [sx] at h
  split at h
  · next v2 v1 st1 =>
      replace h := bif_some2 h
      obtain ⟨h1, h⟩ := h
      simp only [Bool.and_eq_true] at h1
      obtain ⟨h1, h2, h3⟩ := h1
      have e1 := Nat.eq_of_beq_eq_true h1
      subst e1
      split at h
      · next w S1 hf =>
          cases h
          obtain ⟨x, hx⟩ := isL_ok ν μ h2
          obtain ⟨y, hy⟩ := isL_ok ν μ h3
          simp only [stq, List.map_cons, hx, hy]
          refine AW.lmul hd ?_
          obtain ⟨μ', g1, g2, g3, g4, g5⟩ := fJ_ok hf hs
          have hk := one_k k g1 g4 hJ
          simp only [stq, List.map_cons, g5] at hk
          simp only [stq, List.map_cons, List.cons.injEq] at g3
          rw [g2, g3.2.2] at hk
          exact hk
      · cases h
  · cases h
theorem sx_land {l : aL} {g : aPg} {R : sR} {W : sW} {sh : aH} {pr : List Value} {id pc len kc ks : Nat} {lv : List (Nat × Value)} {st : List Value} {S : sS} {Ks : List sK} {P : aP} {ν : Nat → Int32} {μ : Nat → Int64} {M0 M : aM} (G : pgOk g) (hd : decode (iC (pI g id)) pc = .ok (.land, len)) (h : sx g R W sh pr id pc (.land) len lv st S = some Ks) (hs : sat ν μ M S) (hJ : Jm R W M0 M) (k : ∀ K ∈ Ks, kh l (pI g id) P kc ks sh pr (Jm R W M0) ν μ K) : AW l (pI g id) P kc ks pc (lvq ν μ lv) (stq ν μ st) sh M := by
  simp only [sx] at h
  split at h
  · next v2 v1 st1 =>
      replace h := bif_some2 h
      obtain ⟨h1, h⟩ := h
      simp only [Bool.and_eq_true] at h1
      obtain ⟨h1, h2, h3⟩ := h1
      have e1 := Nat.eq_of_beq_eq_true h1
      subst e1
      split at h
      · next w S1 hf =>
          cases h
          obtain ⟨x, hx⟩ := isL_ok ν μ h2
          obtain ⟨y, hy⟩ := isL_ok ν μ h3
          simp only [stq, List.map_cons, hx, hy]
          refine AW.land hd ?_
          obtain ⟨μ', g1, g2, g3, g4, g5⟩ := fJ_ok hf hs
          have hk := one_k k g1 g4 hJ
          simp only [stq, List.map_cons, g5] at hk
          simp only [stq, List.map_cons, List.cons.injEq] at g3
          rw [g2, g3.2.2] at hk
          exact hk
      · cases h
  · cases h
theorem sx_lor {l : aL} {g : aPg} {R : sR} {W : sW} {sh : aH} {pr : List Value} {id pc len kc ks : Nat} {lv : List (Nat × Value)} {st : List Value} {S : sS} {Ks : List sK} {P : aP} {ν : Nat → Int32} {μ : Nat → Int64} {M0 M : aM} (G : pgOk g) (hd : decode (iC (pI g id)) pc = .ok (.lor, len)) (h : sx g R W sh pr id pc (.lor) len lv st S = some Ks) (hs : sat ν μ M S) (hJ : Jm R W M0 M) (k : ∀ K ∈ Ks, kh l (pI g id) P kc ks sh pr (Jm R W M0) ν μ K) : AW l (pI g id) P kc ks pc (lvq ν μ lv) (stq ν μ st) sh M := by
  simp only [sx] at h
  split at h
  · next v2 v1 st1 =>
      replace h := bif_some2 h
      obtain ⟨h1, h⟩ := h
      simp only [Bool.and_eq_true] at h1
      obtain ⟨h1, h2, h3⟩ := h1
      have e1 := Nat.eq_of_beq_eq_true h1
      subst e1
      split at h
      · next w S1 hf =>
          cases h
          obtain ⟨x, hx⟩ := isL_ok ν μ h2
          obtain ⟨y, hy⟩ := isL_ok ν μ h3
          simp only [stq, List.map_cons, hx, hy]
          refine AW.lor hd ?_
          obtain ⟨μ', g1, g2, g3, g4, g5⟩ := fJ_ok hf hs
          have hk := one_k k g1 g4 hJ
          simp only [stq, List.map_cons, g5] at hk
          simp only [stq, List.map_cons, List.cons.injEq] at g3
          rw [g2, g3.2.2] at hk
          exact hk
      · cases h
  · cases h
theorem sx_ldiv {l : aL} {g : aPg} {R : sR} {W : sW} {sh : aH} {pr : List Value} {id pc len kc ks : Nat} {lv : List (Nat × Value)} {st : List Value} {S : sS} {Ks : List sK} {P : aP} {ν : Nat → Int32} {μ : Nat → Int64} {M0 M : aM} (G : pgOk g) (hd : decode (iC (pI g id)) pc = .ok (.ldiv, len)) (h : sx g R W sh pr id pc (.ldiv) len lv st S = some Ks) (hs : sat ν μ M S) (hJ : Jm R W M0 M) (k : ∀ K ∈ Ks, kh l (pI g id) P kc ks sh pr (Jm R W M0) ν μ K) : AW l (pI g id) P kc ks pc (lvq ν μ lv) (stq ν μ st) sh M := by
  simp only [sx] at h
  split at h
  · next v2 v1 st1 =>
      replace h := bif_some2 h
      obtain ⟨h1, h⟩ := h
      simp only [Bool.and_eq_true] at h1
      obtain ⟨h1, h2, h3, h5⟩ := h1
      have e1 := Nat.eq_of_beq_eq_true h1
      subst e1
      split at h
      · next w S1 hf =>
          cases h
          obtain ⟨x, hx⟩ := isL_ok ν μ h2
          obtain ⟨y, hy⟩ := isL_ok ν μ h3
          simp only [stq, List.map_cons, hx, hy]
          refine AW.ldiv hd (nzL_ok hy h5) ?_
          obtain ⟨μ', g1, g2, g3, g4, g5⟩ := fJ_ok hf hs
          have hk := one_k k g1 g4 hJ
          simp only [stq, List.map_cons, g5] at hk
          simp only [stq, List.map_cons, List.cons.injEq] at g3
          rw [g2, g3.2.2] at hk
          exact hk
      · cases h
  · cases h
theorem sx_lshl {l : aL} {g : aPg} {R : sR} {W : sW} {sh : aH} {pr : List Value} {id pc len kc ks : Nat} {lv : List (Nat × Value)} {st : List Value} {S : sS} {Ks : List sK} {P : aP} {ν : Nat → Int32} {μ : Nat → Int64} {M0 M : aM} (G : pgOk g) (hd : decode (iC (pI g id)) pc = .ok (.lshl, len)) (h : sx g R W sh pr id pc (.lshl) len lv st S = some Ks) (hs : sat ν μ M S) (hJ : Jm R W M0 M) (k : ∀ K ∈ Ks, kh l (pI g id) P kc ks sh pr (Jm R W M0) ν μ K) : AW l (pI g id) P kc ks pc (lvq ν μ lv) (stq ν μ st) sh M := by
  simp only [sx] at h
  split at h
  · next v2 v1 st1 =>
      replace h := bif_some2 h
      obtain ⟨h1, h⟩ := h
      simp only [Bool.and_eq_true] at h1
      obtain ⟨h1, h2, h3⟩ := h1
      have e1 := Nat.eq_of_beq_eq_true h1
      subst e1
      split at h
      · next w S1 hf =>
          cases h
          obtain ⟨x, hx⟩ := isL_ok ν μ h2
          obtain ⟨y, hy⟩ := isQ_ok ν μ h3
          simp only [stq, List.map_cons, hx, hy]
          refine AW.lshl hd ?_
          obtain ⟨μ', g1, g2, g3, g4, g5⟩ := fJ_ok hf hs
          have hk := one_k k g1 g4 hJ
          simp only [stq, List.map_cons, g5] at hk
          simp only [stq, List.map_cons, List.cons.injEq] at g3
          rw [g2, g3.2.2] at hk
          exact hk
      · cases h
  · cases h
theorem sx_lshr {l : aL} {g : aPg} {R : sR} {W : sW} {sh : aH} {pr : List Value} {id pc len kc ks : Nat} {lv : List (Nat × Value)} {st : List Value} {S : sS} {Ks : List sK} {P : aP} {ν : Nat → Int32} {μ : Nat → Int64} {M0 M : aM} (G : pgOk g) (hd : decode (iC (pI g id)) pc = .ok (.lshr, len)) (h : sx g R W sh pr id pc (.lshr) len lv st S = some Ks) (hs : sat ν μ M S) (hJ : Jm R W M0 M) (k : ∀ K ∈ Ks, kh l (pI g id) P kc ks sh pr (Jm R W M0) ν μ K) : AW l (pI g id) P kc ks pc (lvq ν μ lv) (stq ν μ st) sh M := by
  simp only [sx] at h
  split at h
  · next v2 v1 st1 =>
      replace h := bif_some2 h
      obtain ⟨h1, h⟩ := h
      simp only [Bool.and_eq_true] at h1
      obtain ⟨h1, h2, h3⟩ := h1
      have e1 := Nat.eq_of_beq_eq_true h1
      subst e1
      split at h
      · next w S1 hf =>
          cases h
          obtain ⟨x, hx⟩ := isL_ok ν μ h2
          obtain ⟨y, hy⟩ := isQ_ok ν μ h3
          simp only [stq, List.map_cons, hx, hy]
          refine AW.lshr hd ?_
          obtain ⟨μ', g1, g2, g3, g4, g5⟩ := fJ_ok hf hs
          have hk := one_k k g1 g4 hJ
          simp only [stq, List.map_cons, g5] at hk
          simp only [stq, List.map_cons, List.cons.injEq] at g3
          rw [g2, g3.2.2] at hk
          exact hk
      · cases h
  · cases h
theorem sx_lushr {l : aL} {g : aPg} {R : sR} {W : sW} {sh : aH} {pr : List Value} {id pc len kc ks : Nat} {lv : List (Nat × Value)} {st : List Value} {S : sS} {Ks : List sK} {P : aP} {ν : Nat → Int32} {μ : Nat → Int64} {M0 M : aM} (G : pgOk g) (hd : decode (iC (pI g id)) pc = .ok (.lushr, len)) (h : sx g R W sh pr id pc (.lushr) len lv st S = some Ks) (hs : sat ν μ M S) (hJ : Jm R W M0 M) (k : ∀ K ∈ Ks, kh l (pI g id) P kc ks sh pr (Jm R W M0) ν μ K) : AW l (pI g id) P kc ks pc (lvq ν μ lv) (stq ν μ st) sh M := by
  simp only [sx] at h
  split at h
  · next v2 v1 st1 =>
      replace h := bif_some2 h
      obtain ⟨h1, h⟩ := h
      simp only [Bool.and_eq_true] at h1
      obtain ⟨h1, h2, h3⟩ := h1
      have e1 := Nat.eq_of_beq_eq_true h1
      subst e1
      split at h
      · next w S1 hf =>
          cases h
          obtain ⟨x, hx⟩ := isL_ok ν μ h2
          obtain ⟨y, hy⟩ := isQ_ok ν μ h3
          simp only [stq, List.map_cons, hx, hy]
          refine AW.lushr hd ?_
          obtain ⟨μ', g1, g2, g3, g4, g5⟩ := fJ_ok hf hs
          have hk := one_k k g1 g4 hJ
          simp only [stq, List.map_cons, g5] at hk
          simp only [stq, List.map_cons, List.cons.injEq] at g3
          rw [g2, g3.2.2] at hk
          exact hk
      · cases h
  · cases h
theorem sx_lcmp {l : aL} {g : aPg} {R : sR} {W : sW} {sh : aH} {pr : List Value} {id pc len kc ks : Nat} {lv : List (Nat × Value)} {st : List Value} {S : sS} {Ks : List sK} {P : aP} {ν : Nat → Int32} {μ : Nat → Int64} {M0 M : aM} (G : pgOk g) (hd : decode (iC (pI g id)) pc = .ok (.lcmp, len)) (h : sx g R W sh pr id pc (.lcmp) len lv st S = some Ks) (hs : sat ν μ M S) (hJ : Jm R W M0 M) (k : ∀ K ∈ Ks, kh l (pI g id) P kc ks sh pr (Jm R W M0) ν μ K) : AW l (pI g id) P kc ks pc (lvq ν μ lv) (stq ν μ st) sh M := by
  simp only [sx] at h
  split at h
  · next v2 v1 st1 =>
      replace h := bif_some2 h
      obtain ⟨h1, h⟩ := h
      simp only [Bool.and_eq_true] at h1
      obtain ⟨h1, h2, h3⟩ := h1
      have e1 := Nat.eq_of_beq_eq_true h1
      subst e1
      split at h
      · next w S1 hf =>
          cases h
          obtain ⟨x, hx⟩ := isL_ok ν μ h2
          obtain ⟨y, hy⟩ := isL_ok ν μ h3
          obtain ⟨ν', g1, g2, g3, g4, g5, -⟩ := fI_ok (x := lg_cmp x y) hf (cmp_in x y) (fun _ h => by cases h) hs
          have hk := one_k k g1 g4 hJ
          simp only [stq, List.map_cons, g5] at hk
          simp only [stq, List.map_cons, List.cons.injEq] at g3
          rw [g2, g3.2.2] at hk
          simp only [stq, List.map_cons, hx, hy]
          exact AW.lcmp hd hk
      · cases h
  · cases h
theorem sx_i2b {l : aL} {g : aPg} {R : sR} {W : sW} {sh : aH} {pr : List Value} {id pc len kc ks : Nat} {lv : List (Nat × Value)} {st : List Value} {S : sS} {Ks : List sK} {P : aP} {ν : Nat → Int32} {μ : Nat → Int64} {M0 M : aM} (G : pgOk g) (hd : decode (iC (pI g id)) pc = .ok (.i2b, len)) (h : sx g R W sh pr id pc (.i2b) len lv st S = some Ks) (hs : sat ν μ M S) (hJ : Jm R W M0 M) (k : ∀ K ∈ Ks, kh l (pI g id) P kc ks sh pr (Jm R W M0) ν μ K) : AW l (pI g id) P kc ks pc (lvq ν μ lv) (stq ν μ st) sh M := by
  simp only [sx] at h
  split at h
  · next v1 st1 =>
      replace h := bif_some2 h
      obtain ⟨h1, h⟩ := h
      simp only [Bool.and_eq_true] at h1
      obtain ⟨h1, h2⟩ := h1
      have e1 := Nat.eq_of_beq_eq_true h1
      subst e1
      split at h
      · next w S1 hf =>
          cases h
          obtain ⟨x, hx⟩ := isQ_ok ν μ h2
          obtain ⟨ν', g1, g2, g3, g4, g5, -⟩ := fI_ok (x := x.toInt8.toInt32) hf (i2b_in x) (fun _ h => by cases h) hs
          have hk := one_k k g1 g4 hJ
          simp only [stq, List.map_cons, g5] at hk
          simp only [stq, List.map_cons, List.cons.injEq] at g3
          rw [g2, g3.2] at hk
          simp only [stq, List.map_cons, hx]
          exact AW.i2b hd hk
      · cases h
  · cases h
theorem sx_i2c {l : aL} {g : aPg} {R : sR} {W : sW} {sh : aH} {pr : List Value} {id pc len kc ks : Nat} {lv : List (Nat × Value)} {st : List Value} {S : sS} {Ks : List sK} {P : aP} {ν : Nat → Int32} {μ : Nat → Int64} {M0 M : aM} (G : pgOk g) (hd : decode (iC (pI g id)) pc = .ok (.i2c, len)) (h : sx g R W sh pr id pc (.i2c) len lv st S = some Ks) (hs : sat ν μ M S) (hJ : Jm R W M0 M) (k : ∀ K ∈ Ks, kh l (pI g id) P kc ks sh pr (Jm R W M0) ν μ K) : AW l (pI g id) P kc ks pc (lvq ν μ lv) (stq ν μ st) sh M := by
  simp only [sx] at h
  split at h
  · next v1 st1 =>
      replace h := bif_some2 h
      obtain ⟨h1, h⟩ := h
      simp only [Bool.and_eq_true] at h1
      obtain ⟨h1, h2⟩ := h1
      have e1 := Nat.eq_of_beq_eq_true h1
      subst e1
      split at h
      · next w S1 hf =>
          cases h
          obtain ⟨x, hx⟩ := isQ_ok ν μ h2
          obtain ⟨ν', g1, g2, g3, g4, g5, -⟩ := fI_ok (x := (x.toUInt32 % 65536).toInt32) hf (in_full _) (fun _ h => by cases h) hs
          have hk := one_k k g1 g4 hJ
          simp only [stq, List.map_cons, g5] at hk
          simp only [stq, List.map_cons, List.cons.injEq] at g3
          rw [g2, g3.2] at hk
          simp only [stq, List.map_cons, hx]
          exact AW.i2c hd hk
      · cases h
  · cases h
theorem sx_l2i {l : aL} {g : aPg} {R : sR} {W : sW} {sh : aH} {pr : List Value} {id pc len kc ks : Nat} {lv : List (Nat × Value)} {st : List Value} {S : sS} {Ks : List sK} {P : aP} {ν : Nat → Int32} {μ : Nat → Int64} {M0 M : aM} (G : pgOk g) (hd : decode (iC (pI g id)) pc = .ok (.l2i, len)) (h : sx g R W sh pr id pc (.l2i) len lv st S = some Ks) (hs : sat ν μ M S) (hJ : Jm R W M0 M) (k : ∀ K ∈ Ks, kh l (pI g id) P kc ks sh pr (Jm R W M0) ν μ K) : AW l (pI g id) P kc ks pc (lvq ν μ lv) (stq ν μ st) sh M := by
  simp only [sx] at h
  split at h
  · next v1 st1 =>
      replace h := bif_some2 h
      obtain ⟨h1, h⟩ := h
      simp only [Bool.and_eq_true] at h1
      obtain ⟨h1, h2⟩ := h1
      have e1 := Nat.eq_of_beq_eq_true h1
      subst e1
      split at h
      · next w S1 hf =>
          cases h
          obtain ⟨x, hx⟩ := isL_ok ν μ h2
          obtain ⟨ν', g1, g2, g3, g4, g5, -⟩ := fI_ok (x := x.toInt32) hf (in_full _) (fun _ h => by cases h) hs
          have hk := one_k k g1 g4 hJ
          simp only [stq, List.map_cons, g5] at hk
          simp only [stq, List.map_cons, List.cons.injEq] at g3
          rw [g2, g3.2] at hk
          simp only [stq, List.map_cons, hx]
          exact AW.l2i hd hk
      · cases h
  · cases h
theorem sx_i2l {l : aL} {g : aPg} {R : sR} {W : sW} {sh : aH} {pr : List Value} {id pc len kc ks : Nat} {lv : List (Nat × Value)} {st : List Value} {S : sS} {Ks : List sK} {P : aP} {ν : Nat → Int32} {μ : Nat → Int64} {M0 M : aM} (G : pgOk g) (hd : decode (iC (pI g id)) pc = .ok (.i2l, len)) (h : sx g R W sh pr id pc (.i2l) len lv st S = some Ks) (hs : sat ν μ M S) (hJ : Jm R W M0 M) (k : ∀ K ∈ Ks, kh l (pI g id) P kc ks sh pr (Jm R W M0) ν μ K) : AW l (pI g id) P kc ks pc (lvq ν μ lv) (stq ν μ st) sh M := by
  simp only [sx] at h
  split at h
  · next v1 st1 =>
      replace h := bif_some2 h
      obtain ⟨h1, h⟩ := h
      simp only [Bool.and_eq_true] at h1
      obtain ⟨h1, h2⟩ := h1
      have e1 := Nat.eq_of_beq_eq_true h1
      subst e1
      split at h
      · next w S1 hf =>
          cases h
          obtain ⟨x, hx⟩ := isQ_ok ν μ h2
          simp only [stq, List.map_cons, hx]
          refine AW.i2l hd ?_
          obtain ⟨μ', g1, g2, g3, g4, g5⟩ := fJ_ok hf hs
          have hk := one_k k g1 g4 hJ
          simp only [stq, List.map_cons, g5] at hk
          simp only [stq, List.map_cons, List.cons.injEq] at g3
          rw [g2, g3.2] at hk
          exact hk
      · cases h
  · cases h
theorem sx_dup {l : aL} {g : aPg} {R : sR} {W : sW} {sh : aH} {pr : List Value} {id pc len kc ks : Nat} {lv : List (Nat × Value)} {st : List Value} {S : sS} {Ks : List sK} {P : aP} {ν : Nat → Int32} {μ : Nat → Int64} {M0 M : aM} (G : pgOk g) (hd : decode (iC (pI g id)) pc = .ok (.dup, len)) (h : sx g R W sh pr id pc (.dup) len lv st S = some Ks) (hs : sat ν μ M S) (hJ : Jm R W M0 M) (k : ∀ K ∈ Ks, kh l (pI g id) P kc ks sh pr (Jm R W M0) ν μ K) : AW l (pI g id) P kc ks pc (lvq ν μ lv) (stq ν μ st) sh M := by
  simp only [sx] at h
  split at h
  · replace h := bif_some2 h
    obtain ⟨h1, h⟩ := h
    simp only [Bool.and_eq_true] at h1
    obtain ⟨h1, h2⟩ := h1
    have e1 := Nat.eq_of_beq_eq_true h1
    subst e1
    cases h
    exact AW.dup hd (by rw [cq_cat]; exact Nat.eq_of_beq_eq_true h2) (one_k k agq.refl hs hJ)
  · cases h
theorem sx_pop {l : aL} {g : aPg} {R : sR} {W : sW} {sh : aH} {pr : List Value} {id pc len kc ks : Nat} {lv : List (Nat × Value)} {st : List Value} {S : sS} {Ks : List sK} {P : aP} {ν : Nat → Int32} {μ : Nat → Int64} {M0 M : aM} (G : pgOk g) (hd : decode (iC (pI g id)) pc = .ok (.pop, len)) (h : sx g R W sh pr id pc (.pop) len lv st S = some Ks) (hs : sat ν μ M S) (hJ : Jm R W M0 M) (k : ∀ K ∈ Ks, kh l (pI g id) P kc ks sh pr (Jm R W M0) ν μ K) : AW l (pI g id) P kc ks pc (lvq ν μ lv) (stq ν μ st) sh M := by
  simp only [sx] at h
  split at h
  · replace h := bif_some2 h
    obtain ⟨h1, h⟩ := h
    simp only [Bool.and_eq_true] at h1
    obtain ⟨h1, h2⟩ := h1
    have e1 := Nat.eq_of_beq_eq_true h1
    subst e1
    cases h
    exact AW.pop hd (by rw [cq_cat]; exact Nat.eq_of_beq_eq_true h2) (one_k k agq.refl hs hJ)
  · cases h
theorem sx_dup2 {l : aL} {g : aPg} {R : sR} {W : sW} {sh : aH} {pr : List Value} {id pc len kc ks : Nat} {lv : List (Nat × Value)} {st : List Value} {S : sS} {Ks : List sK} {P : aP} {ν : Nat → Int32} {μ : Nat → Int64} {M0 M : aM} (G : pgOk g) (hd : decode (iC (pI g id)) pc = .ok (.dup2, len)) (h : sx g R W sh pr id pc (.dup2) len lv st S = some Ks) (hs : sat ν μ M S) (hJ : Jm R W M0 M) (k : ∀ K ∈ Ks, kh l (pI g id) P kc ks sh pr (Jm R W M0) ν μ K) : AW l (pI g id) P kc ks pc (lvq ν μ lv) (stq ν μ st) sh M := by
  simp only [sx] at h
  split at h
  · replace h := bif_some2 h
    obtain ⟨h1, h⟩ := h
    simp only [Bool.and_eq_true] at h1
    obtain ⟨h1, h2, h3⟩ := h1
    have e1 := Nat.eq_of_beq_eq_true h1
    subst e1
    cases h
    exact AW.dup2_11 hd (by rw [cq_cat]; exact Nat.eq_of_beq_eq_true h2) (by rw [cq_cat]; exact Nat.eq_of_beq_eq_true h3) (one_k k agq.refl hs hJ)
  · cases h
theorem sx_goto {l : aL} {g : aPg} {R : sR} {W : sW} {sh : aH} {pr : List Value} {id pc len kc ks : Nat} {lv : List (Nat × Value)} {st : List Value} {S : sS} {Ks : List sK} {P : aP} {ν : Nat → Int32} {μ : Nat → Int64} {M0 M : aM} {off : Int} (G : pgOk g) (hd : decode (iC (pI g id)) pc = .ok (.goto off, len)) (h : sx g R W sh pr id pc (.goto off) len lv st S = some Ks) (hs : sat ν μ M S) (hJ : Jm R W M0 M) (k : ∀ K ∈ Ks, kh l (pI g id) P kc ks sh pr (Jm R W M0) ν μ K) : AW l (pI g id) P kc ks pc (lvq ν μ lv) (stq ν μ st) sh M := by
  simp only [sx] at h
  replace h := bif_some2 h
  obtain ⟨h1, h⟩ := h
  have e1 := Nat.eq_of_beq_eq_true h1
  subst e1
  split at h
  · next t ht =>
      cases h
      exact AW.goto hd (tgt_spec ht) (one_k k agq.refl hs hJ)
  · cases h
theorem sx_if_icmp {l : aL} {g : aPg} {R : sR} {W : sW} {sh : aH} {pr : List Value} {id pc len kc ks : Nat} {lv : List (Nat × Value)} {st : List Value} {S : sS} {Ks : List sK} {P : aP} {ν : Nat → Int32} {μ : Nat → Int64} {M0 M : aM} {c : _root_.Jvm.ClassFile.Cond} {off : Int} (G : pgOk g) (hd : decode (iC (pI g id)) pc = .ok (.if_icmp c off, len)) (h : sx g R W sh pr id pc (.if_icmp c off) len lv st S = some Ks) (hs : sat ν μ M S) (hJ : Jm R W M0 M) (k : ∀ K ∈ Ks, kh l (pI g id) P kc ks sh pr (Jm R W M0) ν μ K) : AW l (pI g id) P kc ks pc (lvq ν μ lv) (stq ν μ st) sh M := by
  simp only [sx] at h
  split at h
  · next v2 v1 st1 =>
      split at h
      · next a ha =>
          split at h
          · next b hb =>
              replace h := bif_some2 h
              obtain ⟨h1, h⟩ := h
              have e1 := Nat.eq_of_beq_eq_true h1
              subst e1
              split at h
              · next t ht =>
                  cases h
                  obtain ⟨x, hx, hi⟩ := ivS_ok hs ha
                  obtain ⟨y, hy, hj⟩ := ivS_ok hs hb
                  simp only [stq, List.map_cons, hx, hy]
                  exact AW.icmpB hd (tgt_spec ht) (fun hc => brK_t k hs hJ hx hy hi hj hc) (fun hc => brK_f k hs hJ hx hy hi hj hc)
              · cases h
          · cases h
      · cases h
  · cases h
theorem sx_ifCond {l : aL} {g : aPg} {R : sR} {W : sW} {sh : aH} {pr : List Value} {id pc len kc ks : Nat} {lv : List (Nat × Value)} {st : List Value} {S : sS} {Ks : List sK} {P : aP} {ν : Nat → Int32} {μ : Nat → Int64} {M0 M : aM} {c : _root_.Jvm.ClassFile.Cond} {off : Int} (G : pgOk g) (hd : decode (iC (pI g id)) pc = .ok (.ifCond c off, len)) (h : sx g R W sh pr id pc (.ifCond c off) len lv st S = some Ks) (hs : sat ν μ M S) (hJ : Jm R W M0 M) (k : ∀ K ∈ Ks, kh l (pI g id) P kc ks sh pr (Jm R W M0) ν μ K) : AW l (pI g id) P kc ks pc (lvq ν μ lv) (stq ν μ st) sh M := by
  simp only [sx] at h
  split at h
  · next v1 st1 =>
      split at h
      · next a ha =>
          replace h := bif_some2 h
          obtain ⟨h1, h⟩ := h
          have e1 := Nat.eq_of_beq_eq_true h1
          subst e1
          split at h
          · next t ht =>
              cases h
              obtain ⟨x, hx, hi⟩ := ivS_ok hs ha
              have hj : inI (0 : Int32) (0, 0) := ⟨by decide, by decide⟩
              have hy : cq ν μ (.int 0) = .int 0 := rfl
              simp only [stq, List.map_cons, hx]
              exact AW.ifB hd (tgt_spec ht) (fun hc => brK_t k hs hJ hx hy hi hj hc) (fun hc => brK_f k hs hJ hx hy hi hj hc)
          · cases h
      · cases h
  · cases h
theorem sx_tableswitch {l : aL} {g : aPg} {R : sR} {W : sW} {sh : aH} {pr : List Value} {id pc len kc ks : Nat} {lv : List (Nat × Value)} {st : List Value} {S : sS} {Ks : List sK} {P : aP} {ν : Nat → Int32} {μ : Nat → Int64} {M0 M : aM} {dflt lo hi : Int} {offs : Array Int} (G : pgOk g) (hd : decode (iC (pI g id)) pc = .ok (.tableswitch dflt lo hi offs, len)) (h : sx g R W sh pr id pc (.tableswitch dflt lo hi offs) len lv st S = some Ks) (hs : sat ν μ M S) (hJ : Jm R W M0 M) (k : ∀ K ∈ Ks, kh l (pI g id) P kc ks sh pr (Jm R W M0) ν μ K) : AW l (pI g id) P kc ks pc (lvq ν μ lv) (stq ν μ st) sh M := by
  simp only [sx] at h
  split at h
  · next v1 st1 =>
      split at h
      · next a ha =>
          split at h
          · next L hL =>
              split at h
              · next t ht =>
                  replace h := bif_some2 h
                  obtain ⟨h1, h⟩ := h
                  cases h
                  rw [Bool.and_eq_true, decide_eq_true_eq] at h1
                  obtain ⟨x, hx, hi'⟩ := ivS_ok hs ha
                  simp only [stq, List.map_cons, hx]
                  by_cases hb : x.toInt < lo ∨ hi < x.toInt
                  · exact AW.tableOut hd hb (tgt_spec ht) (tsD_ok (fun K hK => k K (List.mem_append_left _ hK)) hs hJ hx hi' hb)
                  · have h2 : ¬ x.toInt < lo := fun h => hb (Or.inl h)
                    have h3 : ¬ hi < x.toInt := fun h => hb (Or.inr h)
                    have h4 := Nat.eq_of_beq_eq_true h1.1
                    have h5 : (x.toInt - lo).toNat < offs.size := by omega
                    obtain ⟨t2, e2, k2⟩ := tsL_ok (l := l) (mi := pI g id) (P := P) (kc := kc) (ks := ks) (sh := sh) (pr := pr) (J := Jm R W M0) hs hJ hx hi' _ _ _ hL (fun K hK => k K (List.mem_append_right _ hK)) (x.toInt - lo).toNat (offs[(x.toInt - lo).toNat]) (by rw [Array.getElem?_toList]; exact Array.getElem?_eq_getElem h5) (by omega)
                    exact AW.tableIn hd h2 h3 (Array.getElem?_eq_getElem h5) (tgt_spec e2) k2
              · cases h
          · cases h
      · cases h
  · cases h
theorem sx_getfield {l : aL} {g : aPg} {R : sR} {W : sW} {sh : aH} {pr : List Value} {id pc len kc ks : Nat} {lv : List (Nat × Value)} {st : List Value} {S : sS} {Ks : List sK} {P : aP} {ν : Nat → Int32} {μ : Nat → Int64} {M0 M : aM} {q : Nat} (G : pgOk g) (hd : decode (iC (pI g id)) pc = .ok (.getfield q, len)) (h : sx g R W sh pr id pc (.getfield q) len lv st S = some Ks) (hs : sat ν μ M S) (hJ : Jm R W M0 M) (k : ∀ K ∈ Ks, kh l (pI g id) P kc ks sh pr (Jm R W M0) ν μ K) : AW l (pI g id) P kc ks pc (lvq ν μ lv) (stq ν μ st) sh M := by
  simp only [sx] at h
  split at h
  · next j st1 =>
      split at h
      · next ci f b he =>
          replace h := bif_some2 h
          obtain ⟨h1, h⟩ := h
          rw [Bool.and_eq_true] at h1
          obtain ⟨h1, h2⟩ := h1
          have e1 := Nat.eq_of_beq_eq_true h1
          subst e1
          obtain ⟨w9, q1, q2, q3, q4, -⟩ := G.2.1 _ _ _ _ _ he
          refine AW.getf hd (shO_spec h2) q1 q2 q3 q4 rfl ?_
          cases hT : isTI (tyO ci f) with
          | true =>
            rw [hT] at h
            simp only [cond_true] at h
            rw [isTI_ok hT]
            split at h
            · next v hv =>
                cases h
                have hk := one_k k agq.refl hs hJ
                simp only [stq, List.map_cons, lkM_ok hs hv] at hk
                exact hk
            · split at h
              · next r hr =>
                  split at h
                  · next w S1 hf =>
                      cases h
                      obtain ⟨ν', g1, g2, g3, g4, g5, g6⟩ := fI_ok (x := M.1 j f) hf (rgF_ok hJ.1 hr) (fun _ h => by cases h) hs
                      have hk := one_k k g1 (adC_ok g4 g5) hJ
                      simp only [stq, List.map_cons, g5] at hk
                      simp only [stq, List.map_cons, List.cons.injEq] at g3
                      rw [g2, g3.2] at hk
                      exact hk
                  · cases h
              · cases h
          | false =>
            rw [hT] at h
            simp only [cond_false] at h
            cases hJ2 : isTJ (tyO ci f) with
            | true =>
              rw [hJ2] at h
              simp only [cond_true] at h
              rw [isTJ_ok hJ2]
              split at h
              · next w S1 hf =>
                  cases h
                  obtain ⟨μ', g1, g2, g3, g4, g5⟩ := fJ_ok (x := M.2.1 j f) hf hs
                  have hk := one_k k g1 g4 hJ
                  simp only [stq, List.map_cons, g5] at hk
                  simp only [stq, List.map_cons, List.cons.injEq] at g3
                  rw [g2, g3.2] at hk
                  exact hk
              · cases h
            | false =>
              rw [hJ2] at h
              simp only [cond_false] at h
              split at h
              · next r hr =>
                  replace h := bif_some2 h
                  obtain ⟨h3, h⟩ := h
                  cases h
                  rw [isTA_ok h3 (rgR_ok hJ.2.1 hr)]
                  exact one_k k agq.refl hs hJ
              · cases h
      · cases h
  · cases h
theorem sx_putfield {l : aL} {g : aPg} {R : sR} {W : sW} {sh : aH} {pr : List Value} {id pc len kc ks : Nat} {lv : List (Nat × Value)} {st : List Value} {S : sS} {Ks : List sK} {P : aP} {ν : Nat → Int32} {μ : Nat → Int64} {M0 M : aM} {q : Nat} (G : pgOk g) (hd : decode (iC (pI g id)) pc = .ok (.putfield q, len)) (h : sx g R W sh pr id pc (.putfield q) len lv st S = some Ks) (hs : sat ν μ M S) (hJ : Jm R W M0 M) (k : ∀ K ∈ Ks, kh l (pI g id) P kc ks sh pr (Jm R W M0) ν μ K) : AW l (pI g id) P kc ks pc (lvq ν μ lv) (stq ν μ st) sh M := by
  simp only [sx] at h
  split at h
  · next v j st1 =>
      split at h
      · next ci f b he =>
          replace h := bif_some2 h
          obtain ⟨h1, h⟩ := h
          rw [Bool.and_eq_true, Bool.and_eq_true] at h1
          obtain ⟨h1, h2, h3⟩ := h1
          have e1 := Nat.eq_of_beq_eq_true h1
          subst e1
          obtain ⟨w9, q1, q2, q3, q4, q5, -⟩ := G.2.1 _ _ _ _ _ he
          have hfin := q5 (Nat.eq_of_beq_eq_true h3)
          cases hL : (isL v && isTJ (tyO ci f)) with
          | true =>
            rw [hL] at h
            simp only [cond_true] at h
            cases h
            rw [Bool.and_eq_true] at hL
            obtain ⟨y, hy⟩ := isL_ok ν μ hL.1
            obtain ⟨p1, p2, p3⟩ := ptJ_ok (y := y) hL.2
            simp only [stq, List.map_cons, hy]
            exact AW.putf hd (shO_spec h2) q1 q2 q3 q4 (Or.inl hfin) p1 p2 p3 (one_k k agq.refl (sat_L hs) (J_setL hJ))
          | false =>
            rw [hL] at h
            simp only [cond_false] at h
            split at h
            · next a ha =>
                replace h := bif_some2 h
                obtain ⟨h5, h⟩ := h
                rw [Bool.and_eq_true, Bool.and_eq_true] at h5
                obtain ⟨h5, h6, h7⟩ := h5
                cases h
                obtain ⟨x, hx, hi⟩ := ivS_ok hs ha
                obtain ⟨p1, p2, p3⟩ := ptI_ok hi h7
                simp only [stq, List.map_cons, hx]
                exact AW.putf hd (shO_spec h2) q1 q2 q3 q4 (Or.inl hfin) p1 p2 p3 (one_k k agq.refl (sat_F hs hx) (J_setF hJ h5 h6 hi))
            · cases h
      · cases h
  · cases h
theorem sx_iaload {l : aL} {g : aPg} {R : sR} {W : sW} {sh : aH} {pr : List Value} {id pc len kc ks : Nat} {lv : List (Nat × Value)} {st : List Value} {S : sS} {Ks : List sK} {P : aP} {ν : Nat → Int32} {μ : Nat → Int64} {M0 M : aM} (G : pgOk g) (hd : decode (iC (pI g id)) pc = .ok (.iaload, len)) (h : sx g R W sh pr id pc (.iaload) len lv st S = some Ks) (hs : sat ν μ M S) (hJ : Jm R W M0 M) (k : ∀ K ∈ Ks, kh l (pI g id) P kc ks sh pr (Jm R W M0) ν μ K) : AW l (pI g id) P kc ks pc (lvq ν μ lv) (stq ν μ st) sh M := by
  simp only [sx] at h
  split at h
  · next vi j st1 =>
      split at h
      · next n he =>
          split at h
          · next a ha =>
              replace h := bif_some2 h
              obtain ⟨h1, h⟩ := h
              rw [Bool.and_eq_true] at h1
              obtain ⟨h1, h2⟩ := h1
              have e1 := Nat.eq_of_beq_eq_true h1
              subst e1
              obtain ⟨x, hx, hi⟩ := ivS_ok hs ha
              have hst : stq ν μ (vi :: .ref j :: st1) = .int x :: .ref j :: stq ν μ st1 := by simp only [stq, List.map_cons, hx]; rfl
              rw [hst]
              exact AW.iald hd (shA_spec he) (ixI_ok hi h2) (rdA_ok h hi hx k hs hJ)
          · cases h
      · cases h
  · cases h
theorem sx_baload {l : aL} {g : aPg} {R : sR} {W : sW} {sh : aH} {pr : List Value} {id pc len kc ks : Nat} {lv : List (Nat × Value)} {st : List Value} {S : sS} {Ks : List sK} {P : aP} {ν : Nat → Int32} {μ : Nat → Int64} {M0 M : aM} (G : pgOk g) (hd : decode (iC (pI g id)) pc = .ok (.baload, len)) (h : sx g R W sh pr id pc (.baload) len lv st S = some Ks) (hs : sat ν μ M S) (hJ : Jm R W M0 M) (k : ∀ K ∈ Ks, kh l (pI g id) P kc ks sh pr (Jm R W M0) ν μ K) : AW l (pI g id) P kc ks pc (lvq ν μ lv) (stq ν μ st) sh M := by
  simp only [sx] at h
  split at h
  · next vi j st1 =>
      split at h
      · next n he =>
          split at h
          · next a ha =>
              replace h := bif_some2 h
              obtain ⟨h1, h⟩ := h
              rw [Bool.and_eq_true] at h1
              obtain ⟨h1, h2⟩ := h1
              have e1 := Nat.eq_of_beq_eq_true h1
              subst e1
              obtain ⟨x, hx, hi⟩ := ivS_ok hs ha
              have hst : stq ν μ (vi :: .ref j :: st1) = .int x :: .ref j :: stq ν μ st1 := by simp only [stq, List.map_cons, hx]; rfl
              rw [hst]
              exact AW.bald hd (shA_spec he) (ixI_ok hi h2) (rdA_ok h hi hx k hs hJ)
          · cases h
      · split at h
        · next n he =>
            split at h
            · next a ha =>
                replace h := bif_some2 h
                obtain ⟨h1, h⟩ := h
                rw [Bool.and_eq_true] at h1
                obtain ⟨h1, h2⟩ := h1
                have e1 := Nat.eq_of_beq_eq_true h1
                subst e1
                obtain ⟨x, hx, hi⟩ := ivS_ok hs ha
                have hst : stq ν μ (vi :: .ref j :: st1) = .int x :: .ref j :: stq ν μ st1 := by simp only [stq, List.map_cons, hx]; rfl
                rw [hst]
                exact AW.zald hd (shA_spec he) (ixI_ok hi h2) (rdA_ok h hi hx k hs hJ)
            · cases h
        · cases h
  · cases h
theorem sx_laload {l : aL} {g : aPg} {R : sR} {W : sW} {sh : aH} {pr : List Value} {id pc len kc ks : Nat} {lv : List (Nat × Value)} {st : List Value} {S : sS} {Ks : List sK} {P : aP} {ν : Nat → Int32} {μ : Nat → Int64} {M0 M : aM} (G : pgOk g) (hd : decode (iC (pI g id)) pc = .ok (.laload, len)) (h : sx g R W sh pr id pc (.laload) len lv st S = some Ks) (hs : sat ν μ M S) (hJ : Jm R W M0 M) (k : ∀ K ∈ Ks, kh l (pI g id) P kc ks sh pr (Jm R W M0) ν μ K) : AW l (pI g id) P kc ks pc (lvq ν μ lv) (stq ν μ st) sh M := by
  simp only [sx] at h
  split at h
  · next vi j st1 =>
      split at h
      · next n he =>
          split at h
          · next a ha =>
              replace h := bif_some2 h
              obtain ⟨h1, h⟩ := h
              rw [Bool.and_eq_true] at h1
              obtain ⟨h1, h2⟩ := h1
              have e1 := Nat.eq_of_beq_eq_true h1
              subst e1
              obtain ⟨x, hx, hi⟩ := ivS_ok hs ha
              split at h
              · next w S1 hf =>
                  cases h
                  simp only [stq, List.map_cons, hx]
                  refine AW.lald hd (shA_spec he) (ixI_ok hi h2) ?_
                  obtain ⟨μ', g1, g2, g3, g4, g5⟩ := fJ_ok hf hs
                  have hk := one_k k g1 g4 hJ
                  simp only [stq, List.map_cons, g5] at hk
                  simp only [stq, List.map_cons, List.cons.injEq] at g3
                  rw [g2, g3.2.2] at hk
                  exact hk
              · cases h
          · cases h
      · cases h
  · cases h
theorem sx_iastore {l : aL} {g : aPg} {R : sR} {W : sW} {sh : aH} {pr : List Value} {id pc len kc ks : Nat} {lv : List (Nat × Value)} {st : List Value} {S : sS} {Ks : List sK} {P : aP} {ν : Nat → Int32} {μ : Nat → Int64} {M0 M : aM} (G : pgOk g) (hd : decode (iC (pI g id)) pc = .ok (.iastore, len)) (h : sx g R W sh pr id pc (.iastore) len lv st S = some Ks) (hs : sat ν μ M S) (hJ : Jm R W M0 M) (k : ∀ K ∈ Ks, kh l (pI g id) P kc ks sh pr (Jm R W M0) ν μ K) : AW l (pI g id) P kc ks pc (lvq ν μ lv) (stq ν μ st) sh M := by
  simp only [sx] at h
  split at h
  · next v vi j st1 =>
      split at h
      · next n he =>
          split at h
          · next a ha =>
              split at h
              · next b hb =>
                  replace h := bif_some2 h
                  obtain ⟨h1, h⟩ := h
                  rw [Bool.and_eq_true, Bool.and_eq_true, Bool.and_eq_true] at h1
                  obtain ⟨h1, h2, h3, h4⟩ := h1
                  have e1 := Nat.eq_of_beq_eq_true h1
                  subst e1
                  cases h
                  obtain ⟨x, hx, hi⟩ := ivS_ok hs ha
                  obtain ⟨y, hy, hj⟩ := ivS_ok hs hb
                  simp only [stq, List.map_cons, hx, hy]
                  exact AW.iast hd (shA_spec he) (ixI_ok hi h2) (one_k k agq.refl (wtA_ok hs hi hy) (J_setA hJ h3 h4 hj))
              · cases h
          · cases h
      · cases h
  · cases h
theorem sx_bastore {l : aL} {g : aPg} {R : sR} {W : sW} {sh : aH} {pr : List Value} {id pc len kc ks : Nat} {lv : List (Nat × Value)} {st : List Value} {S : sS} {Ks : List sK} {P : aP} {ν : Nat → Int32} {μ : Nat → Int64} {M0 M : aM} (G : pgOk g) (hd : decode (iC (pI g id)) pc = .ok (.bastore, len)) (h : sx g R W sh pr id pc (.bastore) len lv st S = some Ks) (hs : sat ν μ M S) (hJ : Jm R W M0 M) (k : ∀ K ∈ Ks, kh l (pI g id) P kc ks sh pr (Jm R W M0) ν μ K) : AW l (pI g id) P kc ks pc (lvq ν μ lv) (stq ν μ st) sh M := by
  simp only [sx] at h
  split at h
  · next v vi j st1 =>
      split at h
      · next n he =>
          split at h
          · next a ha =>
              replace h := bif_some2 h
              obtain ⟨h1, h⟩ := h
              rw [Bool.and_eq_true, Bool.and_eq_true, Bool.and_eq_true, Bool.and_eq_true] at h1
              obtain ⟨h1, h5, h2, h3, h4⟩ := h1
              have e1 := Nat.eq_of_beq_eq_true h1
              subst e1
              cases h
              obtain ⟨x, hx, hi⟩ := ivS_ok hs ha
              obtain ⟨y, hy⟩ := isQ_ok ν μ h5
              simp only [stq, List.map_cons, hx, hy]
              exact AW.bast hd (shA_spec he) (ixI_ok hi h2) (one_k k agq.refl (wtN_ok hs) (J_setA hJ h3 h4 (nar_b y)))
          · cases h
      · split at h
        · next n he =>
            split at h
            · next a ha =>
                replace h := bif_some2 h
                obtain ⟨h1, h⟩ := h
                rw [Bool.and_eq_true, Bool.and_eq_true, Bool.and_eq_true, Bool.and_eq_true] at h1
                obtain ⟨h1, h5, h2, h3, h4⟩ := h1
                have e1 := Nat.eq_of_beq_eq_true h1
                subst e1
                cases h
                obtain ⟨x, hx, hi⟩ := ivS_ok hs ha
                obtain ⟨y, hy⟩ := isQ_ok ν μ h5
                simp only [stq, List.map_cons, hx, hy]
                exact AW.zast hd (shA_spec he) (ixI_ok hi h2) (one_k k agq.refl (wtN_ok hs) (J_setA hJ h3 h4 (nar_z y)))
            · cases h
        · cases h
  · cases h
theorem sx_lastore {l : aL} {g : aPg} {R : sR} {W : sW} {sh : aH} {pr : List Value} {id pc len kc ks : Nat} {lv : List (Nat × Value)} {st : List Value} {S : sS} {Ks : List sK} {P : aP} {ν : Nat → Int32} {μ : Nat → Int64} {M0 M : aM} (G : pgOk g) (hd : decode (iC (pI g id)) pc = .ok (.lastore, len)) (h : sx g R W sh pr id pc (.lastore) len lv st S = some Ks) (hs : sat ν μ M S) (hJ : Jm R W M0 M) (k : ∀ K ∈ Ks, kh l (pI g id) P kc ks sh pr (Jm R W M0) ν μ K) : AW l (pI g id) P kc ks pc (lvq ν μ lv) (stq ν μ st) sh M := by
  simp only [sx] at h
  split at h
  · next v vi j st1 =>
      split at h
      · next n he =>
          split at h
          · next a ha =>
              replace h := bif_some2 h
              obtain ⟨h1, h⟩ := h
              rw [Bool.and_eq_true, Bool.and_eq_true] at h1
              obtain ⟨h1, h2, h3⟩ := h1
              have e1 := Nat.eq_of_beq_eq_true h1
              subst e1
              cases h
              obtain ⟨x, hx, hi⟩ := ivS_ok hs ha
              obtain ⟨y, hy⟩ := isL_ok ν μ h2
              simp only [stq, List.map_cons, hx, hy]
              exact AW.last hd (shA_spec he) (ixI_ok hi h3) (one_k k agq.refl (sat_L hs) (J_setL hJ))
          · cases h
      · cases h
  · cases h
theorem sx_arraylength {l : aL} {g : aPg} {R : sR} {W : sW} {sh : aH} {pr : List Value} {id pc len kc ks : Nat} {lv : List (Nat × Value)} {st : List Value} {S : sS} {Ks : List sK} {P : aP} {ν : Nat → Int32} {μ : Nat → Int64} {M0 M : aM} (G : pgOk g) (hd : decode (iC (pI g id)) pc = .ok (.arraylength, len)) (h : sx g R W sh pr id pc (.arraylength) len lv st S = some Ks) (hs : sat ν μ M S) (hJ : Jm R W M0 M) (k : ∀ K ∈ Ks, kh l (pI g id) P kc ks sh pr (Jm R W M0) ν μ K) : AW l (pI g id) P kc ks pc (lvq ν μ lv) (stq ν μ st) sh M := by
  simp only [sx] at h
  split at h
  · split at h
    · next ty n he =>
        replace h := bif_some2 h
        obtain ⟨h1, h⟩ := h
        have e1 := Nat.eq_of_beq_eq_true h1
        subst e1
        cases h
        exact AW.alen hd he (one_k k agq.refl hs hJ)
    · cases h
  · cases h
theorem sx_ok {l : aL} {g : aPg} {R : sR} {W : sW} {sh : aH} {pr : List Value} {id pc len kc ks : Nat} {lv : List (Nat × Value)} {st : List Value} {S : sS} {Ks : List sK} {P : aP} {ν : Nat → Int32} {μ : Nat → Int64} {M0 M : aM} {i : Instr} (G : pgOk g) (hd : decode (iC (pI g id)) pc = .ok (i, len)) (h : sx g R W sh pr id pc i len lv st S = some Ks) (hs : sat ν μ M S) (hJ : Jm R W M0 M) (k : ∀ K ∈ Ks, kh l (pI g id) P kc ks sh pr (Jm R W M0) ν μ K) : AW l (pI g id) P kc ks pc (lvq ν μ lv) (stq ν μ st) sh M := by
  cases i
  all_goals first
    | exact sx_iconst G hd h hs hJ k
    | exact sx_bipush G hd h hs hJ k
    | exact sx_sipush G hd h hs hJ k
    | exact sx_lconst G hd h hs hJ k
    | exact sx_ldc G hd h hs hJ k
    | exact sx_ldc_w G hd h hs hJ k
    | exact sx_ldc2_w G hd h hs hJ k
    | exact sx_iload_n G hd h hs hJ k
    | exact sx_iload G hd h hs hJ k
    | exact sx_lload_n G hd h hs hJ k
    | exact sx_lload G hd h hs hJ k
    | exact sx_aload_n G hd h hs hJ k
    | exact sx_aload G hd h hs hJ k
    | exact sx_istore_n G hd h hs hJ k
    | exact sx_istore G hd h hs hJ k
    | exact sx_lstore_n G hd h hs hJ k
    | exact sx_lstore G hd h hs hJ k
    | exact sx_astore_n G hd h hs hJ k
    | exact sx_astore G hd h hs hJ k
    | exact sx_iinc G hd h hs hJ k
    | exact sx_iadd G hd h hs hJ k
    | exact sx_isub G hd h hs hJ k
    | exact sx_imul G hd h hs hJ k
    | exact sx_iand G hd h hs hJ k
    | exact sx_ior G hd h hs hJ k
    | exact sx_ixor G hd h hs hJ k
    | exact sx_ishl G hd h hs hJ k
    | exact sx_ishr G hd h hs hJ k
    | exact sx_iushr G hd h hs hJ k
    | exact sx_idiv G hd h hs hJ k
    | exact sx_irem G hd h hs hJ k
    | exact sx_ladd G hd h hs hJ k
    | exact sx_lsub G hd h hs hJ k
    | exact sx_lmul G hd h hs hJ k
    | exact sx_land G hd h hs hJ k
    | exact sx_lor G hd h hs hJ k
    | exact sx_ldiv G hd h hs hJ k
    | exact sx_lshl G hd h hs hJ k
    | exact sx_lshr G hd h hs hJ k
    | exact sx_lushr G hd h hs hJ k
    | exact sx_lcmp G hd h hs hJ k
    | exact sx_i2b G hd h hs hJ k
    | exact sx_i2c G hd h hs hJ k
    | exact sx_l2i G hd h hs hJ k
    | exact sx_i2l G hd h hs hJ k
    | exact sx_dup G hd h hs hJ k
    | exact sx_pop G hd h hs hJ k
    | exact sx_dup2 G hd h hs hJ k
    | exact sx_goto G hd h hs hJ k
    | exact sx_if_icmp G hd h hs hJ k
    | exact sx_ifCond G hd h hs hJ k
    | exact sx_tableswitch G hd h hs hJ k
    | exact sx_getfield G hd h hs hJ k
    | exact sx_putfield G hd h hs hJ k
    | exact sx_iaload G hd h hs hJ k
    | exact sx_baload G hd h hs hJ k
    | exact sx_laload G hd h hs hJ k
    | exact sx_iastore G hd h hs hJ k
    | exact sx_bastore G hd h hs hJ k
    | exact sx_lastore G hd h hs hJ k
    | exact sx_arraylength G hd h hs hJ k
    | (simp [sx] at h; done)
