/-! runs over intervals: to returns, throws, or places where a loop begins; calls by contract or by running the callee -/
abbrev sX : Type := (sK × Nat × Nat) ⊕ (aR × sS)
def rq (ν : Nat → Int32) (μ : Nat → Int64) (r : aR) : aR := match r with
  | .inl v => .inl (v.map (cq ν μ))
  | .inr X => .inr X
def xh (l : aL) (mi : aI) (P : aP) (sh : aH) (pr : List Value) (J : aM → Prop) (ν : Nat → Int32) (μ : Nat → Int64) (x : sX) : Prop := match x with
  | .inl y => kh l mi P y.2.1 y.2.2 sh pr J ν μ y.1
  | .inr y => ∀ (ν' : Nat → Int32) (μ' : Nat → Int64) (M' : aM), agq pr ν μ ν' μ' → sat ν' μ' M' y.2 → J M' → P (rq ν' μ' y.1) sh M'
theorem xh_ag {l : aL} {mi : aI} {P : aP} {sh : aH} {pr : List Value} {J : aM → Prop} {ν ν' : Nat → Int32} {μ μ' : Nat → Int64} {x : sX} (h : agq pr ν μ ν' μ') (k : xh l mi P sh pr J ν μ x) : xh l mi P sh pr J ν' μ' x := by
  cases x with
  | inl y => exact fun ν2 μ2 M2 h2 => k ν2 μ2 M2 (h.trans h2)
  | inr y => exact fun ν2 μ2 M2 h2 => k ν2 μ2 M2 (h.trans h2)
def mapX {α : Type} (f : α → Option (List sX)) : List α → Option (List sX)
  | [] => some []
  | K :: r => match f K with
    | some A => (match mapX f r with
      | some B => some (A ++ B)
      | none => none)
    | none => none
theorem mapX_ok {α : Type} {f : α → Option (List sX)} : ∀ {L : List α} {Xs : List sX}, mapX f L = some Xs → ∀ K ∈ L, ∃ A, f K = some A ∧ ∀ x ∈ A, x ∈ Xs
  | [], _, _, K, hK => absurd hK List.not_mem_nil
  | a :: r, Xs, h, K, hK => by
    unfold mapX at h
    split at h
    · next A hA =>
        split at h
        · next B hB =>
            cases h
            rcases List.mem_cons.mp hK with rfl | hK
            · exact ⟨A, hA, fun x hx => List.mem_append_left _ hx⟩
            · obtain ⟨A', h1, h2⟩ := mapX_ok hB K hK
              exact ⟨A', h1, fun x hx => List.mem_append_right _ (h2 x hx)⟩
        · cases h
    · cases h
/-- what a contract asks of a value: a long, this value, an int of an interval -/
abbrev pP : Type := Option (Value ⊕ iI)
def mP (v : Value) (p : pP) : Prop := match p with
  | none => ∃ x : Int64, v = .long x
  | some (.inl w) => v = w
  | some (.inr q) => ∃ x : Int32, v = .int x ∧ inI x q
/-- slots behind a call: an interval, and a difference to what was there before -/
abbrev pF2 : Type := List (Nat × Nat × iI × Option (Int × Int))
/-- a contract: method, arguments, slots' intervals before, what is written, cases of the end (answer, slots), throws, cells and slots made -/
abbrev cE : Type := Nat × List pP × List (Nat × Nat × iI) × sW × List (Option pP × pF2) × List String × Nat × Nat
abbrev eJ (e : cE) : Nat := e.1
abbrev eA (e : cE) : List pP := e.2.1
abbrev eB (e : cE) : List (Nat × Nat × iI) := e.2.2.1
abbrev eW (e : cE) : sW := e.2.2.2.1
abbrev eC (e : cE) : List (Option pP × pF2) := e.2.2.2.2.1
abbrev eX (e : cE) : List String := e.2.2.2.2.2.1
abbrev eKc (e : cE) : Nat := e.2.2.2.2.2.2.1
abbrev eKs (e : cE) : Nat := e.2.2.2.2.2.2.2
def mR (v : Option Value) (p : Option pP) : Prop := match p, v with
  | none, none => True
  | some p, some v => mP v p
  | _, _ => False
def m2 (M0 M : aM) (q : Nat × Nat × iI × Option (Int × Int)) : Prop := inI (M.1 q.1 q.2.1) q.2.2.1 ∧ ∀ d, q.2.2.2 = some d → d.1 ≤ (M.1 q.1 q.2.1).toInt - (M0.1 q.1 q.2.1).toInt ∧ (M.1 q.1 q.2.1).toInt - (M0.1 q.1 q.2.1).toInt ≤ d.2
def pOk (e : cE) (M0 M : aM) (r : aR) : Prop := match r with
  | .inl v => ∃ c ∈ eC e, mR v c.1 ∧ ∀ q ∈ c.2, m2 M0 M q
  | .inr X => X ∈ eX e
def mL2 : List Value → List pP → Prop
  | [], [] => True
  | v :: r, p :: s => mP v p ∧ mL2 r s
  | _, _ => False
def JR (R : sR) (M : aM) : Prop := (∀ e ∈ R.1, rgOk M e) ∧ ∀ e ∈ R.2, M.2.2 e.1 e.2.1 = e.2.2
/-- the contract holds -/
def cOk (l : aL) (g : aPg) (R : sR) (sh : aH) (e : cE) : Prop := ∀ (M0 : aM) (av : List Value), mL2 av (eA e) → JR R M0 → (∀ q ∈ eB e, inI (M0.1 q.1 q.2.1) q.2.2) → AC l (pI g (eJ e)) (fun r sh' M => sh' = sh ∧ Jm R (eW e) M0 M ∧ pOk e M0 M r) (eKc e) (eKs e) av sh M0
/-- does a value fit what is asked -/
def isC (v : Value) : Bool := match v with
  | .float _ => false
  | .double _ => false
  | _ => true
def subI (a q : iI) : Bool := decide (q.1 ≤ a.1) && decide (a.2 ≤ q.2)
theorem subI_ok {x : Int32} {a q : iI} (h : inI x a) (hs : subI a q = true) : inI x q := by
  simp only [subI, Bool.and_eq_true, decide_eq_true_eq] at hs
  exact ⟨Int.le_trans hs.1 h.1, Int.le_trans h.2 hs.2⟩
def mA (S : sS) (v : Value) (p : pP) : Bool := match p with
  | none => isL v
  | some (.inl w) => isC w && decide (v = w)
  | some (.inr q) => (match ivS S v with
    | some a => subI a q
    | none => false)
theorem mA_ok {ν : Nat → Int32} {μ : Nat → Int64} {M : aM} {S : sS} (hs : sat ν μ M S) {v : Value} {p : pP} (h : mA S v p = true) : mP (cq ν μ v) p := by
  unfold mA at h
  split at h
  · exact isL_ok ν μ h
  · next w =>
      rw [Bool.and_eq_true, decide_eq_true_eq] at h
      show cq ν μ v = w
      rw [h.2]
      have h1 := h.1
      cases w <;> first
        | rfl
        | cases h1
  · next q =>
      split at h
      · next a ha =>
          obtain ⟨x, hx, hi⟩ := ivS_ok hs ha
          exact ⟨x, hx, subI_ok hi h⟩
      · cases h
def mAl (S : sS) : List Value → List pP → Bool
  | [], [] => true
  | v :: r, p :: s => mA S v p && mAl S r s
  | _, _ => false
theorem mAl_ok {ν : Nat → Int32} {μ : Nat → Int64} {M : aM} {S : sS} (hs : sat ν μ M S) : ∀ {av : List Value} {ps : List pP}, mAl S av ps = true → mL2 (stq ν μ av) ps
  | [], [], _ => trivial
  | v :: r, p :: s, h => by
    unfold mAl at h
    rw [Bool.and_eq_true] at h
    exact ⟨mA_ok hs h.1, mAl_ok hs h.2⟩
  | [], _ :: _, h => by cases h
  | _ :: _, [], h => by cases h
def slI (R : sR) (S : sS) (a k : Nat) : Option iI := match lkM S.2.2.2 a k with
  | some v => ivS S v
  | none => (match rgF R.1 a k with
    | some q => some q
    | none => rgA R.1 a)
theorem slI_ok {ν : Nat → Int32} {μ : Nat → Int64} {M : aM} {R : sR} {S : sS} (hs : sat ν μ M S) (hR : ∀ e ∈ R.1, rgOk M e) {a k : Nat} {q : iI} (h : slI R S a k = some q) : inI (M.1 a k) q := by
  unfold slI at h
  split at h
  · next v hv =>
      obtain ⟨x, hx, hi⟩ := ivS_ok hs h
      have h1 := lkM_ok hs hv
      rw [hx] at h1
      cases h1
      exact hi
  · split at h
    · next q' hq =>
        cases h
        exact rgF_ok hR hq
    · exact rgA_ok hR h k
def mB (R : sR) (S : sS) (L : List (Nat × Nat × iI)) : Bool := L.all (fun q => match slI R S q.1 q.2.1 with
  | some a => subI a q.2.2
  | none => false)
theorem mB_ok {ν : Nat → Int32} {μ : Nat → Int64} {M : aM} {R : sR} {S : sS} (hs : sat ν μ M S) (hR : ∀ e ∈ R.1, rgOk M e) {L : List (Nat × Nat × iI)} (h : mB R S L = true) : ∀ q ∈ L, inI (M.1 q.1 q.2.1) q.2.2 := by
  intro q hq
  have h1 := List.all_eq_true.mp h q hq
  split at h1
  · next a ha => exact subI_ok (slI_ok hs hR ha) h1
  · cases h1
def subW (U W : sW) : Bool := U.1.all (fun a => W.1.any (fun b => Nat.beq b a)) && U.2.all (fun q => wrW W q.1 q.2)
theorem subW_ok {U W : sW} (h : subW U W = true) {a k : Nat} (hw : wrW W a k = false) : wrW U a k = false := by
  rw [subW, Bool.and_eq_true, List.all_eq_true, List.all_eq_true] at h
  cases hu : wrW U a k with
  | false => rfl
  | true =>
    exfalso
    rw [wrW, Bool.or_eq_true, List.any_eq_true, List.any_eq_true] at hu
    have h9 : wrW W a k = true := by
      rcases hu with ⟨b, hb, e⟩ | ⟨b, hb, e⟩
      · have h1 := h.1 b hb
        rw [Nat.eq_of_beq_eq_true e] at h1
        rw [wrW, h1, Bool.true_or]
      · rw [Bool.and_eq_true] at e
        have h1 := h.2 b hb
        rw [Nat.eq_of_beq_eq_true e.1, Nat.eq_of_beq_eq_true e.2] at h1
        exact h1
    rw [h9] at hw
    cases hw
theorem Jm_call {R : sR} {U W : sW} {M0 M M' : aM} (hJ : Jm R W M0 M) (h : subW U W = true) (h' : Jm R U M M') : Jm R W M0 M' := ⟨h'.1, h'.2.1, fun a k hw => (h'.2.2.1 a k (subW_ok h hw)).trans (hJ.2.2.1 a k hw), h'.2.2.2.trans hJ.2.2.2⟩
/-- slots that a call has left as they were -/
def keepC (U : sW) (C : sC) : sC := C.filter (fun e => !wrW U e.1 e.2.1 && (Nat.blt e.2.1 1048576 || !U.2.any (fun b => Nat.beq b.1 e.1)))
theorem keepC_ok {ν : Nat → Int32} {μ : Nat → Int64} {R : sR} {U : sW} {M M' : aM} {S : sS} (hs : sat ν μ M S) (h' : Jm R U M M') : sat ν μ M' (S.1, S.2.1, S.2.2.1, keepC U S.2.2.2) := by
  refine ⟨hs.1, hs.2.1, fun e he => ?_⟩
  obtain ⟨h1, h2⟩ := List.mem_filter.mp he
  rw [Bool.and_eq_true, Bool.not_eq_true', Bool.or_eq_true, Bool.not_eq_true'] at h2
  rw [hs.2.2 e h1]
  rcases h2.2 with h3 | h3
  · rw [dx_lt h3, h'.2.2.1 _ _ h2.1]
  · have h4 : wrW U e.1 (dxC ν e.2.1) = false := by
      have h5 := h2.1
      unfold wrW at h5 ⊢
      rw [Bool.or_eq_false_iff] at h5
      rw [h5.1, Bool.false_or, Bool.eq_false_iff]
      intro h6
      obtain ⟨b, hb, h7⟩ := List.any_eq_true.mp h6
      rw [Bool.and_eq_true] at h7
      have h8 : U.2.any (fun b => Nat.beq b.1 e.1) = true := List.any_eq_true.mpr ⟨b, hb, h7.1⟩
      rw [h8] at h3
      cases h3
    rw [h'.2.2.1 _ _ h4]
/-- what a contract says of slots -/
def psD (v : Value) (d : Int × Int) : Option (Nat × Int × Int) := match v with
  | .float u => some (u.toNat, d.1, d.2)
  | _ => none
def psV (S0 : sS) (v : Value) (q : iI) (d : Int × Int) : iI := match ivS S0 v with
  | some b => (mxI q.1 (b.1 + d.1), mnI q.2 (b.2 + d.2))
  | none => q
def psI (S0 : sS) (a k : Nat) (q : iI) (d : Option (Int × Int)) : iI × Option (Nat × Int × Int) := match d with
  | none => (q, none)
  | some d => (match lkM S0.2.2.2 a k with
    | some v => (psV S0 v q d, psD v d)
    | none => (q, none))
def psS (pr : List Value) (lv : List (Nat × Value)) (st : List Value) (S0 : sS) : pF2 → sS → Option sS
  | [], S => some S
  | q :: r, S => match fI pr lv st S (psI S0 q.1 q.2.1 q.2.2.1 q.2.2.2).1 (psI S0 q.1 q.2.1 q.2.2.1 q.2.2.2).2 with
    | some (w, S1) => psS pr lv st S0 r (adC S1 q.1 q.2.1 w)
    | none => none
theorem psS_ok {pr : List Value} {lv : List (Nat × Value)} {st : List Value} {S0 : sS} {ν0 : Nat → Int32} {μ0 : Nat → Int64} {M0 M : aM} (hs0 : sat ν0 μ0 M0 S0) (hpr : ∀ e ∈ S0.2.2.2, e.2.2 ∈ pr) {μ : Nat → Int64} : ∀ {L : pF2} {S S' : sS} {ν : Nat → Int32}, psS pr lv st S0 L S = some S' → (∀ q ∈ L, m2 M0 M q) → agq pr ν0 μ0 ν μ → sat ν μ M S → ∃ ν', agq pr ν0 μ0 ν' μ ∧ lvq ν' μ lv = lvq ν μ lv ∧ stq ν' μ st = stq ν μ st ∧ sat ν' μ M S'
  | [], S, S', ν, h, _, h1, h4 => by
    cases h
    exact ⟨ν, h1, rfl, rfl, h4⟩
  | q :: r, S, S', ν, h, hm, h1, h4 => by
    unfold psS at h
    split at h
    · next w S1 hf =>
        obtain ⟨g0, g9⟩ := hm q List.mem_cons_self
        have key : inI (M.1 q.1 q.2.1) (psI S0 q.1 q.2.1 q.2.2.1 q.2.2.2).1 ∧ ∀ b, (psI S0 q.1 q.2.1 q.2.2.1 q.2.2.2).2 = some b → b.2.1 ≤ (M.1 q.1 q.2.1).toInt - (ν b.1).toInt ∧ (M.1 q.1 q.2.1).toInt - (ν b.1).toInt ≤ b.2.2 := by
          unfold psI
          split
          · exact ⟨g0, fun _ h => by cases h⟩
          · next d hd =>
              have g9 := g9 d hd
              split
              · next v hv =>
                  have hmv := lkM_mem hv
                  have hv0 := lkM_ok hs0 hv
                  refine ⟨?_, fun b hb => ?_⟩
                  · show inI _ (psV S0 v _ d)
                    unfold psV
                    split
                    · next b hb =>
                        obtain ⟨x, hx, hi⟩ := ivS_ok hs0 hb
                        rw [hv0] at hx
                        cases hx
                        have i1 := hi.1
                        have i2 := hi.2
                        exact ⟨mxI_ok g0.1 (by omega), mnI_ok g0.2 (by omega)⟩
                    · exact g0
                  · have hb : psD v d = some b := hb
                    unfold psD at hb
                    cases v with
                    | float u =>
                      have hb : some (u.toNat, d.1, d.2) = some b := hb
                      have e := Option.some.inj hb
                      subst e
                      have h5 := h1 _ (hpr _ hmv)
                      simp only at h5
                      rw [hv0] at h5
                      have h6 : ν u.toNat = M0.1 q.1 q.2.1 := Value.int.inj h5
                      simp only
                      rw [h6]
                      exact g9
                    | _ => cases hb
              · exact ⟨g0, fun _ h => by cases h⟩
        obtain ⟨ν', k1, k2, k3, k4, k5, -⟩ := fI_ok (x := M.1 q.1 q.2.1) hf key.1 key.2 h4
        obtain ⟨ν2, j1, j2, j3, j4⟩ := psS_ok hs0 hpr h (fun q' hq' => hm q' (List.mem_cons_of_mem _ hq')) (h1.trans k1) (adC_ok k4 k5)
        exact ⟨ν2, j1, j2.trans k2, j3.trans k3, j4⟩
    · cases h
/-- the answer of a contract -/
def psR (pr : List Value) (lv : List (Nat × Value)) (st : List Value) (S : sS) (p : Option pP) : Option (Option Value × sS) := match p with
  | none => some (none, S)
  | some none => (match fJ pr lv st S with
    | some (w, S1) => some (some w, S1)
    | none => none)
  | some (some (.inl v)) => bif isC v then some (some v, S) else none
  | some (some (.inr q)) => (match fI pr lv st S q none with
    | some (w, S1) => some (some w, S1)
    | none => none)
theorem psR_ok {pr : List Value} {lv : List (Nat × Value)} {st : List Value} {S S' : sS} {p : Option pP} {v w : Option Value} {ν : Nat → Int32} {μ : Nat → Int64} {M : aM} (h : psR pr lv st S p = some (w, S')) (hm : mR v p) (hs : sat ν μ M S) : ∃ ν' μ', agq pr ν μ ν' μ' ∧ lvq ν' μ' lv = lvq ν μ lv ∧ stq ν' μ' st = stq ν μ st ∧ sat ν' μ' M S' ∧ w.map (cq ν' μ') = v := by
  unfold psR at h
  split at h
  · cases h
    cases v with
    | none => exact ⟨ν, μ, agq.refl, rfl, rfl, hs, rfl⟩
    | some v => cases hm
  · split at h
    · next w1 S1 hf =>
        cases h
        cases v with
        | none => cases hm
        | some v =>
          obtain ⟨x, hx⟩ := hm
          obtain ⟨μ', g1, g2, g3, g4, g5⟩ := fJ_ok (x := x) hf hs
          exact ⟨ν, μ', g1, g2, g3, g4, by rw [hx, ← g5]; rfl⟩
    · cases h
  · next u =>
      obtain ⟨h1, h⟩ := bif_some h
      cases h
      cases v with
      | none => cases hm
      | some v =>
        have hm : v = u := hm
        subst hm
        refine ⟨ν, μ, agq.refl, rfl, rfl, hs, ?_⟩
        cases v <;> first
          | rfl
          | cases h1
  · next q =>
      split at h
      · next w1 S1 hf =>
          cases h
          cases v with
          | none => cases hm
          | some v =>
            obtain ⟨x, hx, hi⟩ := hm
            obtain ⟨ν', g1, g2, g3, g4, g5, -⟩ := fI_ok (x := x) hf hi (fun _ h => by cases h) hs
            exact ⟨ν', μ, g1, g2, g3, g4, by rw [hx, ← g5]; rfl⟩
      · cases h
/-- a call's callee, arguments, and the stack behind it -/
def clK (g : aPg) (id : Nat) (i : Instr) (len : Nat) (st : List Value) (sh : aH) : Option (Nat × Bool × List Value × List Value) := match i with
  | .invokevirtual q => (match pM g (pO g id) q with
    | some (jd, kd, np) => (match st.drop np with
      | .ref j :: st' => (bif Nat.beq len 3 && (Nat.beq kd 0 && (Nat.beq (st.take np).length np && (shO sh j (pN g jd) && (room g id jd && (Nat.ble (cats st') 8 && Nat.ble (lg_sl (.ref j :: (st.take np).reverse)).length (iL (pI g jd))))))) then some (jd, true, .ref j :: (st.take np).reverse, st') else none)
      | _ => none)
    | none => none)
  | .invokestatic q => (match pM g (pO g id) q with
    | some (jd, kd, np) => (bif Nat.beq len 3 && (Nat.beq kd 1 && (Nat.beq (st.take np).length np && (room g id jd && (Nat.ble (cats (st.drop np)) 8 && Nat.ble (lg_sl (st.take np).reverse).length (iL (pI g jd)))))) then some (jd, true, (st.take np).reverse, st.drop np) else none)
    | none => none)
  | _ => none
theorem cats_q {ν : Nat → Int32} {μ : Nat → Int64} (st : List Value) : ((stq ν μ st).map fun v => v.category).sum = cats st := by
  simp only [stq, cats, List.map_map]
  congr 1
  exact List.map_congr_left (fun v _ => cq_cat ν μ v)
theorem lg_q {ν : Nat → Int32} {μ : Nat → Int64} : ∀ (av : List Value), (lg_sl (stq ν μ av)).length = (lg_sl av).length
  | [] => rfl
  | v :: r => by
    have h := lg_q (ν := ν) (μ := μ) r
    simp only [lg_sl, stq, List.map_cons, List.flatMap_cons, List.length_append, cq_cat] at h ⊢
    rw [h]
    split <;> rfl
theorem args_q {ν : Nat → Int32} {μ : Nat → Int64} : ∀ (av : List Value) (i : Nat), lv_args i (stq ν μ av) = lvq ν μ (lv_args i av)
  | [], _ => rfl
  | v :: r, i => by
    show (i, cq ν μ v) :: lv_args (if (cq ν μ v).category = 2 then i + 2 else i + 1) (stq ν μ r) = _
    rw [cq_cat, args_q r]
    rfl
/-- what a call needs of its callee -/
def okQ (g : aPg) (jd : Nat) (av : List Value) : Prop := plainName (iY (pI g jd)).cls = true ∧ (iY (pI g jd)).cls = iO (pI g jd) ∧ iT (pI g jd) = [] ∧ (lg_sl av).length ≤ iL (pI g jd)
theorem clK_ok {l : aL} {g : aPg} {sh : aH} {id pc len jd : Nat} {b : Bool} {i : Instr} {lv : List (Nat × Value)} {st av st' : List Value} {ν : Nat → Int32} {μ : Nat → Int64} {M : aM} (G : pgOk g) (hd : decode (iC (pI g id)) pc = .ok (i, len)) (h : clK g id i len st sh = some (jd, b, av, st')) :
    okQ g jd av ∧ ∀ (P P1 : aP) (kc ks kc1 ks1 : Nat), AC l (pI g jd) P1 kc1 ks1 (stq ν μ av) sh M → (∀ v sh' M', P1 (.inl v) sh' M' → AW l (pI g id) P kc ks (pc + 3) lv (v.toList ++ stq ν μ st') sh' M') → (∀ X sh' M', P1 (.inr X) sh' M' → AX l (pI g id) P kc ks pc lv sh' M' X) → AW l (pI g id) P (kc + kc1) (ks + ks1) pc lv (stq ν μ st) sh M := by
  unfold clK at h
  split at h
  · next q =>
      split at h
      · next jd' kd np hm =>
          split at h
          · next j st1 hst =>
              replace h := bif_some h
              obtain ⟨h1, h⟩ := h
              simp only [Bool.and_eq_true] at h1
              obtain ⟨h1, h2, h3, h4, h5, h6, h7⟩ := h1
              have e1 := Nat.eq_of_beq_eq_true h1
              subst e1
              have e2 := Nat.eq_of_beq_eq_true h2
              have e3 := Nat.eq_of_beq_eq_true h3
              cases h
              obtain ⟨w1, w2, ⟨w, hq, hqc⟩, o1, o2, o3⟩ := (G.2.2.1 _ _ _ _ _ hm).1 e2
              refine ⟨⟨o1, o2, o3, Nat.le_of_ble_eq_true h7⟩, fun P P1 kc ks kc1 ks1 hc kr kx => ?_⟩
              have hsplit : (stq ν μ (st.take np).reverse).reverse ++ .ref j :: stq ν μ st' = stq ν μ st := by
                have e : (st.take np) ++ (.ref j :: st') = st := by rw [← hst]; exact List.take_append_drop np st
                conv => rhs; rw [← e]
                simp only [stq, List.map_append, List.map_reverse, List.reverse_reverse, List.map_cons]
                rfl
              have hlen : (stq ν μ (st.take np).reverse).length = np := by simp only [stq, List.length_map, List.length_reverse]; exact e3
              have hk := AW.callV (l := l) (mj := pI g jd) (as := stq ν μ (st.take np).reverse) (st := stq ν μ st') (P := P) (kc := kc) (ks := ks) (lv := lv) (P1 := P1) hd (shO_spec h4) hq hqc w1 ⟨by rw [hlen]; exact w2, room_spec h5⟩ (by rw [cats_q]; exact Nat.le_of_ble_eq_true h6) hc kr kx
              rw [hsplit] at hk
              exact hk
          · cases h
      · cases h
  · next q =>
      split at h
      · next jd' kd np hm =>
          replace h := bif_some h
          obtain ⟨h1, h⟩ := h
          simp only [Bool.and_eq_true] at h1
          obtain ⟨h1, h2, h3, h5, h6, h7⟩ := h1
          have e1 := Nat.eq_of_beq_eq_true h1
          subst e1
          have e2 := Nat.eq_of_beq_eq_true h2
          have e3 := Nat.eq_of_beq_eq_true h3
          cases h
          obtain ⟨w1, w2, o1, o2, o3⟩ := (G.2.2.1 _ _ _ _ _ hm).2.1 e2
          refine ⟨⟨o1, o2, o3, Nat.le_of_ble_eq_true h7⟩, fun P P1 kc ks kc1 ks1 hc kr kx => ?_⟩
          have hsplit : (stq ν μ (st.take np).reverse).reverse ++ stq ν μ (st.drop np) = stq ν μ st := by
            have e : (st.take np) ++ (st.drop np) = st := List.take_append_drop np st
            conv => rhs; rw [← e]
            simp only [stq, List.map_append, List.map_reverse, List.reverse_reverse]
          have hlen : (stq ν μ (st.take np).reverse).length = np := by simp only [stq, List.length_map, List.length_reverse]; exact e3
          have hk := AW.callS (l := l) (mj := pI g jd) (as := stq ν μ (st.take np).reverse) (st := stq ν μ (st.drop np)) (P := P) (kc := kc) (ks := ks) (lv := lv) (P1 := P1) hd w1 ⟨by rw [hlen]; exact w2, room_spec h5⟩ (by rw [cats_q]; exact Nat.le_of_ble_eq_true h6) hc kr kx
          rw [hsplit] at hk
          exact hk
      · cases h
  · cases h
