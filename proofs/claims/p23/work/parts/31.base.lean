/-! unknown ints and longs by number: .float u is an int, .double u a long; what is known of them: intervals, differences, what slots hold -/
def cq (ν : Nat → Int32) (μ : Nat → Int64) (v : Value) : Value := match v with
  | .float u => .int (ν u.toNat)
  | .double u => .long (μ u.toNat)
  | .int x => .int x
  | .long x => .long x
  | .ref i => .ref i
  | .null => .null
  | .retAddr k => .retAddr k
theorem cq_cat (ν : Nat → Int32) (μ : Nat → Int64) (v : Value) : (cq ν μ v).category = v.category := by cases v <;> rfl
def lvq (ν : Nat → Int32) (μ : Nat → Int64) (lv : List (Nat × Value)) : List (Nat × Value) := lv.map (fun q => (q.1, cq ν μ q.2))
def stq (ν : Nat → Int32) (μ : Nat → Int64) (st : List Value) : List Value := st.map (cq ν μ)
theorem lk_q (ν : Nat → Int32) (μ : Nat → Int64) : ∀ (lv : List (Nat × Value)) (i : Nat), lk (lvq ν μ lv) i = (lk lv i).map (cq ν μ)
  | [], _ => rfl
  | q :: r, i => by
    have ih := lk_q ν μ r i
    show (if q.1 = i then some (cq ν μ q.2) else lk (lvq ν μ r) i) = (if q.1 = i then some q.2 else lk r i).map (cq ν μ)
    by_cases h : q.1 = i
    · rw [if_pos h, if_pos h]
      rfl
    · rw [if_neg h, if_neg h]
      exact ih
theorem s1_q (ν : Nat → Int32) (μ : Nat → Int64) (lv : List (Nat × Value)) (i : Nat) (v : Value) : s1 (lvq ν μ lv) i (cq ν μ v) = lvq ν μ (s1 lv i v) := by
  simp only [lvq, s1, List.map_cons, List.filter_map]
  congr 3
  funext q
  simp [cq_cat]
theorem s2_q (ν : Nat → Int32) (μ : Nat → Int64) (lv : List (Nat × Value)) (i : Nat) (v : Value) : s2 (lvq ν μ lv) i (cq ν μ v) = lvq ν μ (s2 lv i v) := by
  simp only [lvq, s2, List.map_cons, List.filter_map]
  congr 3
  funext q
  simp [cq_cat]
abbrev sT : Type := List (Nat × iI)
abbrev sD : Type := List (Nat × Nat × Int × Int)
abbrev sC : Type := List (Nat × Nat × Value)
/-- the next free number, intervals, differences, slots -/
abbrev sS : Type := Nat × sT × sD × sC
abbrev sK : Type := Nat × List (Nat × Value) × List Value × sS
/-- a slot: below 1048576 by its number; else by an unknown int that is the place -/
def dxC (ν : Nat → Int32) (k : Nat) : Nat := match Nat.blt k 1048576 with
  | true => k
  | false => (ν (k - 1048576)).toNatClampNeg
theorem dx_lt {ν : Nat → Int32} {k : Nat} (h : Nat.blt k 1048576 = true) : dxC ν k = k := by
  unfold dxC
  rw [h]
theorem dx_sym {ν : Nat → Int32} {u : Nat} : dxC ν (1048576 + u) = (ν u).toNatClampNeg := by
  unfold dxC
  have h : Nat.blt (1048576 + u) 1048576 = false := by
    rw [Bool.eq_false_iff]
    intro h
    have := Nat.blt_eq.mp h
    omega
  rw [h, show 1048576 + u - 1048576 = u by omega]
def sat (ν : Nat → Int32) (μ : Nat → Int64) (M : aM) (S : sS) : Prop := (∀ e ∈ S.2.1, inI (ν e.1) e.2) ∧ (∀ e ∈ S.2.2.1, e.2.2.1 ≤ (ν e.1).toInt - (ν e.2.1).toInt ∧ (ν e.1).toInt - (ν e.2.1).toInt ≤ e.2.2.2) ∧ ∀ e ∈ S.2.2.2, cq ν μ e.2.2 = .int (M.1 e.1 (dxC ν e.2.1))
def agq (pr : List Value) (ν : Nat → Int32) (μ : Nat → Int64) (ν' : Nat → Int32) (μ' : Nat → Int64) : Prop := ∀ v ∈ pr, cq ν' μ' v = cq ν μ v
theorem agq.refl {pr : List Value} {ν : Nat → Int32} {μ : Nat → Int64} : agq pr ν μ ν μ := fun _ _ => rfl
theorem agq.trans {pr : List Value} {ν ν' ν'' : Nat → Int32} {μ μ' μ'' : Nat → Int64} (h1 : agq pr ν μ ν' μ') (h2 : agq pr ν' μ' ν'' μ'') : agq pr ν μ ν'' μ'' := fun v hv => (h2 v hv).trans (h1 v hv)
def usV (u : Nat) (v : Value) : Bool := match v with
  | .float w => Nat.beq w.toNat u
  | .double w => Nat.beq w.toNat u
  | _ => false
def up1 {α : Type} (f : Nat → α) (u : Nat) (x : α) : Nat → α := fun w => if w = u then x else f w
theorem up1_at {α : Type} (f : Nat → α) (u : Nat) (x : α) : up1 f u x u = x := by simp [up1]
theorem up1_ne {α : Type} {f : Nat → α} {u w : Nat} {x : α} (h : w ≠ u) : up1 f u x w = f w := by simp [up1, h]
theorem beq_ne {a b : Nat} (h : Nat.beq a b = false) : a ≠ b := fun e => by
  subst e
  simp at h
theorem cq_upI {ν : Nat → Int32} {μ : Nat → Int64} {u : Nat} {x : Int32} {v : Value} (h : usV u v = false) : cq (up1 ν u x) μ v = cq ν μ v := by
  cases v <;> try rfl
  next w => simp only [cq]; rw [up1_ne (beq_ne h)]
theorem cq_upL {ν : Nat → Int32} {μ : Nat → Int64} {u : Nat} {x : Int64} {v : Value} (h : usV u v = false) : cq ν (up1 μ u x) v = cq ν μ v := by
  cases v <;> try rfl
  next w => simp only [cq]; rw [up1_ne (beq_ne h)]
theorem dx_up {ν : Nat → Int32} {u k : Nat} {x : Int32} (h : k ≠ 1048576 + u) : dxC (up1 ν u x) k = dxC ν k := by
  unfold dxC
  split
  · rfl
  · next hb =>
      have h1 : ¬ k < 1048576 := fun h2 => by
        rw [Nat.blt_eq.mpr h2] at hb
        cases hb
      rw [up1_ne (by omega)]
/-- may the next number be used: nobody has it -/
def okW (pr : List Value) (lv : List (Nat × Value)) (st : List Value) (S : sS) : Bool :=
  Nat.blt S.1 4294967295 && (pr.all (fun v => !usV S.1 v) && (lv.all (fun q => !usV S.1 q.2) && (st.all (fun v => !usV S.1 v) && (S.2.1.all (fun e => !Nat.beq e.1 S.1) && (S.2.2.1.all (fun e => !Nat.beq e.1 S.1 && !Nat.beq e.2.1 S.1) && S.2.2.2.all (fun e => !usV S.1 e.2.2 && !Nat.beq e.2.1 (1048576 + S.1)))))))
theorem okW_spec {pr : List Value} {lv : List (Nat × Value)} {st : List Value} {S : sS} (h : okW pr lv st S = true) : S.1 < 4294967295 ∧ (∀ v ∈ pr, usV S.1 v = false) ∧ (∀ q ∈ lv, usV S.1 q.2 = false) ∧ (∀ v ∈ st, usV S.1 v = false) ∧ (∀ e ∈ S.2.1, e.1 ≠ S.1) ∧ (∀ e ∈ S.2.2.1, e.1 ≠ S.1 ∧ e.2.1 ≠ S.1) ∧ ∀ e ∈ S.2.2.2, usV S.1 e.2.2 = false ∧ e.2.1 ≠ 1048576 + S.1 := by
  simp only [okW, Bool.and_eq_true, List.all_eq_true, Bool.not_eq_true'] at h
  obtain ⟨h1, h2, h3, h4, h5, h6, h7⟩ := h
  exact ⟨Nat.blt_eq.mp h1, h2, h3, h4, fun e he => beq_ne (h5 e he), fun e he => ⟨beq_ne (h6 e he).1, beq_ne (h6 e he).2⟩, fun e he => ⟨(h7 e he).1, beq_ne (h7 e he).2⟩⟩
theorem lvq_eq {ν ν' : Nat → Int32} {μ μ' : Nat → Int64} {lv : List (Nat × Value)} (h : ∀ q ∈ lv, cq ν' μ' q.2 = cq ν μ q.2) : lvq ν' μ' lv = lvq ν μ lv := List.map_congr_left (fun q hq => by rw [h q hq])
theorem stq_eq {ν ν' : Nat → Int32} {μ μ' : Nat → Int64} {st : List Value} (h : ∀ v ∈ st, cq ν' μ' v = cq ν μ v) : stq ν' μ' st = stq ν μ st := List.map_congr_left h
/-- a new int -/
def fI (pr : List Value) (lv : List (Nat × Value)) (st : List Value) (S : sS) (q : iI) (d : Option (Nat × Int × Int)) : Option (Value × sS) := match decide (q.1 = q.2) with
  | true => some (.int (Int32.ofInt q.1), S)
  | false => (match d with
    | none => (bif okW pr lv st S then some (.float (UInt32.ofNat S.1), S.1 + 1, (S.1, q) :: S.2.1, S.2.2.1, S.2.2.2) else none)
    | some b => (bif okW pr lv st S && !Nat.beq b.1 S.1 then some (.float (UInt32.ofNat S.1), S.1 + 1, (S.1, q) :: S.2.1, (S.1, b) :: S.2.2.1, S.2.2.2) else none))
theorem u32 {n : Nat} (h : n < 4294967295) : (UInt32.ofNat n).toNat = n := u_of (by omega)
theorem u64 {n : Nat} (h : n < 4294967295) : (UInt64.ofNat n).toNat = n := by
  rw [UInt64.toNat_ofNat']
  exact Nat.mod_eq_of_lt (by omega)
theorem fI_ok {ν : Nat → Int32} {μ : Nat → Int64} {M : aM} {pr : List Value} {lv : List (Nat × Value)} {st : List Value} {S S' : sS} {q : iI} {d : Option (Nat × Int × Int)} {w : Value} {x : Int32} (h : fI pr lv st S q d = some (w, S')) (hx : inI x q)
    (hd : ∀ b, d = some b → b.2.1 ≤ x.toInt - (ν b.1).toInt ∧ x.toInt - (ν b.1).toInt ≤ b.2.2) (hs : sat ν μ M S) : ∃ ν', agq pr ν μ ν' μ ∧ lvq ν' μ lv = lvq ν μ lv ∧ stq ν' μ st = stq ν μ st ∧ sat ν' μ M S' ∧ cq ν' μ w = .int x ∧ S'.2.2.2 = S.2.2.2 := by
  unfold fI at h
  split at h
  · next e =>
      have e := of_decide_eq_true e
      cases h
      refine ⟨ν, agq.refl, rfl, rfl, hs, ?_, rfl⟩
      have h1 := hx.1
      have h2 := hx.2
      have : x.toInt = q.1 := by omega
      rw [← this]
      simp [cq]
  · have key : ∀ (hw : okW pr lv st S = true), (agq pr ν μ (up1 ν S.1 x) μ ∧ lvq (up1 ν S.1 x) μ lv = lvq ν μ lv ∧ stq (up1 ν S.1 x) μ st = stq ν μ st) ∧ ((∀ e ∈ S.2.1, inI (up1 ν S.1 x e.1) e.2) ∧ (∀ e ∈ S.2.2.1, e.2.2.1 ≤ (up1 ν S.1 x e.1).toInt - (up1 ν S.1 x e.2.1).toInt ∧ (up1 ν S.1 x e.1).toInt - (up1 ν S.1 x e.2.1).toInt ≤ e.2.2.2) ∧ ∀ e ∈ S.2.2.2, cq (up1 ν S.1 x) μ e.2.2 = .int (M.1 e.1 (dxC (up1 ν S.1 x) e.2.1))) ∧ cq (up1 ν S.1 x) μ (.float (UInt32.ofNat S.1)) = .int x := by
      intro hw
      obtain ⟨g1, g2, g3, g4, g5, g6, g7⟩ := okW_spec hw
      refine ⟨⟨fun v hv => cq_upI (g2 v hv), lvq_eq (fun q hq => cq_upI (g3 q hq)), stq_eq (fun v hv => cq_upI (g4 v hv))⟩, ⟨fun e he => ?_, fun e he => ?_, fun e he => ?_⟩, ?_⟩
      · rw [up1_ne (g5 e he)]
        exact hs.1 e he
      · rw [up1_ne (g6 e he).1, up1_ne (g6 e he).2]
        exact hs.2.1 e he
      · rw [cq_upI (g7 e he).1, dx_up (g7 e he).2]
        exact hs.2.2 e he
      · simp only [cq]
        rw [u32 g1, up1_at]
    split at h
    · obtain ⟨hw, h⟩ := bif_some h
      cases h
      obtain ⟨⟨k1, k2, k3⟩, ⟨k4, k5, k6⟩, k7⟩ := key hw
      exact ⟨_, k1, k2, k3, ⟨List.forall_mem_cons.mpr ⟨by rw [up1_at]; exact hx, k4⟩, k5, k6⟩, k7, rfl⟩
    · next b =>
        obtain ⟨hw, h⟩ := bif_some h
        cases h
        rw [Bool.and_eq_true, Bool.not_eq_true'] at hw
        obtain ⟨⟨k1, k2, k3⟩, ⟨k4, k5, k6⟩, k7⟩ := key hw.1
        refine ⟨_, k1, k2, k3, ⟨List.forall_mem_cons.mpr ⟨by rw [up1_at]; exact hx, k4⟩, List.forall_mem_cons.mpr ⟨?_, k5⟩, k6⟩, k7, rfl⟩
        show b.2.1 ≤ (up1 ν S.1 x S.1).toInt - (up1 ν S.1 x b.1).toInt ∧ (up1 ν S.1 x S.1).toInt - (up1 ν S.1 x b.1).toInt ≤ b.2.2
        rw [up1_at, up1_ne (beq_ne hw.2)]
        exact hd b rfl
/-- a new long -/
def fJ (pr : List Value) (lv : List (Nat × Value)) (st : List Value) (S : sS) : Option (Value × sS) := bif okW pr lv st S then some (.double (UInt64.ofNat S.1), S.1 + 1, S.2.1, S.2.2.1, S.2.2.2) else none
theorem fJ_ok {ν : Nat → Int32} {μ : Nat → Int64} {M : aM} {pr : List Value} {lv : List (Nat × Value)} {st : List Value} {S S' : sS} {w : Value} {x : Int64} (h : fJ pr lv st S = some (w, S')) (hs : sat ν μ M S) : ∃ μ', agq pr ν μ ν μ' ∧ lvq ν μ' lv = lvq ν μ lv ∧ stq ν μ' st = stq ν μ st ∧ sat ν μ' M S' ∧ cq ν μ' w = .long x := by
  unfold fJ at h
  obtain ⟨hw, h⟩ := bif_some h
  cases h
  obtain ⟨g1, g2, g3, g4, g5, g6, g7⟩ := okW_spec hw
  refine ⟨up1 μ S.1 x, fun v hv => cq_upL (g2 v hv), lvq_eq (fun q hq => cq_upL (g3 q hq)), stq_eq (fun v hv => cq_upL (g4 v hv)), ⟨hs.1, hs.2.1, fun e he => ?_⟩, ?_⟩
  · rw [cq_upL (g7 e he).1]
    exact hs.2.2 e he
  · simp only [cq]
    rw [u64 g1, up1_at]
def lkT : sT → Nat → iI
  | [], _ => fullI
  | e :: r, u => match Nat.beq e.1 u with
    | true => e.2
    | false => lkT r u
theorem lkT_ok {ν : Nat → Int32} : ∀ {T : sT} {u : Nat}, (∀ e ∈ T, inI (ν e.1) e.2) → inI (ν u) (lkT T u)
  | [], u, _ => in_full _
  | e :: r, u, h => by
    unfold lkT
    split
    · next h1 =>
        have := h e List.mem_cons_self
        rw [Nat.eq_of_beq_eq_true h1] at this
        exact this
    · exact lkT_ok (fun e he => h e (List.mem_cons_of_mem _ he))
def lkD : sD → Nat → Option (Nat × Int × Int)
  | [], _ => none
  | e :: r, u => match Nat.beq e.1 u with
    | true => some e.2
    | false => lkD r u
theorem lkD_mem : ∀ {D : sD} {u : Nat} {b : Nat × Int × Int}, lkD D u = some b → (u, b) ∈ D
  | [], _, _, h => by cases h
  | e :: r, u, b, h => by
    unfold lkD at h
    split at h
    · next h1 =>
        cases h
        rw [← Nat.eq_of_beq_eq_true h1]
        exact List.mem_cons_self
    · exact List.mem_cons_of_mem _ (lkD_mem h)
def mnI (a b : Int) : Int := bif decide (a ≤ b) then a else b
def mxI (a b : Int) : Int := bif decide (a ≤ b) then b else a
theorem mnI_ok {x a b : Int} (h1 : x ≤ a) (h2 : x ≤ b) : x ≤ mnI a b := by
  unfold mnI
  cases decide (a ≤ b) <;> assumption
theorem mxI_ok {x a b : Int} (h1 : a ≤ x) (h2 : b ≤ x) : mxI a b ≤ x := by
  unfold mxI
  cases decide (a ≤ b) <;> assumption
/-- the interval of a value -/
def ivS (S : sS) (v : Value) : Option iI := match v with
  | .int x => some (x.toInt, x.toInt)
  | .float u => (match lkD S.2.2.1 u.toNat with
    | some b => some (mxI (lkT S.2.1 u.toNat).1 ((lkT S.2.1 b.1).1 + b.2.1), mnI (lkT S.2.1 u.toNat).2 ((lkT S.2.1 b.1).2 + b.2.2))
    | none => some (lkT S.2.1 u.toNat))
  | _ => none
theorem ivS_ok {ν : Nat → Int32} {μ : Nat → Int64} {M : aM} {S : sS} (hs : sat ν μ M S) {v : Value} {q : iI} (h : ivS S v = some q) : ∃ x : Int32, cq ν μ v = .int x ∧ inI x q := by
  cases v <;> simp only [ivS] at h <;> try cases h
  · exact ⟨_, rfl, Int.le_refl _, Int.le_refl _⟩
  · next u =>
      refine ⟨_, rfl, ?_⟩
      have h1 := lkT_ok (u := u.toNat) hs.1
      split at h
      · next b hb =>
          cases h
          have h2 := lkT_ok (u := b.1) hs.1
          have h3 := hs.2.1 _ (lkD_mem hb)
          have g1 := h2.1
          have g2 := h2.2
          simp only at h3
          exact ⟨mxI_ok h1.1 (by omega), mnI_ok h1.2 (by omega)⟩
      · cases h
        exact h1
def isQ (v : Value) : Bool := match v with
  | .int _ => true
  | .float _ => true
  | _ => false
theorem isQ_ok (ν : Nat → Int32) (μ : Nat → Int64) {v : Value} (h : isQ v = true) : ∃ x : Int32, cq ν μ v = .int x := by
  cases v <;> first
    | exact ⟨_, rfl⟩
    | cases h
def isL (v : Value) : Bool := match v with
  | .long _ => true
  | .double _ => true
  | _ => false
theorem isL_ok (ν : Nat → Int32) (μ : Nat → Int64) {v : Value} (h : isL v = true) : ∃ x : Int64, cq ν μ v = .long x := by
  cases v <;> first
    | exact ⟨_, rfl⟩
    | cases h
theorem isR_q (ν : Nat → Int32) (μ : Nat → Int64) {v : Value} (h : isR v = true) : cq ν μ v = v := by
  cases v <;> first
    | rfl
    | cases h
/-- where a sum with a number stands to what it came of -/
def dAdd (_S : sS) (v : Value) (a : iI) (n : Int) : Option (Nat × Int × Int) := match v with
  | .float u => (bif clipB (a.1 + n) (a.2 + n) then some (u.toNat, n, n) else none)
  | _ => none
theorem dAdd_ok {ν : Nat → Int32} {μ : Nat → Int64} {M : aM} {S : sS} (_hs : sat ν μ M S) {v : Value} {a : iI} {n : Int} {x y : Int32} (hv : cq ν μ v = .int x) (hx : inI x a) (hy : y.toInt = (x.toInt + n).bmod (2 ^ 32)) : ∀ b, dAdd S v a n = some b → b.2.1 ≤ y.toInt - (ν b.1).toInt ∧ y.toInt - (ν b.1).toInt ≤ b.2.2 := by
  intro b h
  cases v <;> simp only [dAdd] at h <;> try cases h
  next u =>
    obtain ⟨h1, h⟩ := bif_some h
    have g1 := hx.1
    have g2 := hx.2
    have e := clipB_ok hy (by omega : a.1 + n ≤ x.toInt + n) (by omega) h1
    cases hv
    cases h
    simp only
    omega
/-- an 'and' is no more than what it came of -/
def dAnd (_S : sS) (v : Value) (a : iI) : Option (Nat × Int × Int) := match v with
  | .float u => (bif decide (0 ≤ a.1) then some (u.toNat, -4294967296, 0) else none)
  | _ => none
theorem dAnd_ok {ν : Nat → Int32} {μ : Nat → Int64} {M : aM} {S : sS} (_hs : sat ν μ M S) {v : Value} {a : iI} {x y : Int32} (hv : cq ν μ v = .int x) (hx : inI x a) : ∀ b, dAnd S v a = some b → b.2.1 ≤ (x &&& y).toInt - (ν b.1).toInt ∧ (x &&& y).toInt - (ν b.1).toInt ≤ b.2.2 := by
  intro b h
  cases v <;> simp only [dAnd] at h <;> try cases h
  next u =>
    obtain ⟨h1, h⟩ := bif_some h
    have h1 := of_decide_eq_true h1
    have g1 := hx.1
    have e := and_le (x := x) (y := y) (by omega)
    cases hv
    cases h
    have g3 := lo_i (ν u.toNat)
    have g4 := hi_i (ν u.toNat)
    simp only
    omega
/-- how far one number is from another, over the differences that are known -/
def relL (f : Nat → Option (Int × Int)) (u : Nat) : sD → Option (Int × Int)
  | [] => none
  | e :: r => match Nat.beq e.1 u with
    | true => (match f e.2.1 with
      | some x => some (x.1 + e.2.2.1, x.2 + e.2.2.2)
      | none => relL f u r)
    | false => relL f u r
def relD (D : sD) (b : Nat) : Nat → Nat → Option (Int × Int)
  | 0, u => bif Nat.beq u b then some (0, 0) else none
  | n + 1, u => bif Nat.beq u b then some (0, 0) else relL (relD D b n) u D
theorem relL_ok {ν : Nat → Int32} {f : Nat → Option (Int × Int)} {u b : Nat} (hf : ∀ w r, f w = some r → r.1 ≤ (ν w).toInt - (ν b).toInt ∧ (ν w).toInt - (ν b).toInt ≤ r.2) : ∀ {D : sD} {r : Int × Int}, (∀ e ∈ D, e.2.2.1 ≤ (ν e.1).toInt - (ν e.2.1).toInt ∧ (ν e.1).toInt - (ν e.2.1).toInt ≤ e.2.2.2) → relL f u D = some r → r.1 ≤ (ν u).toInt - (ν b).toInt ∧ (ν u).toInt - (ν b).toInt ≤ r.2
  | [], _, _, h => by cases h
  | e :: rs, r, hD, h => by
    have rest := fun e' h' => hD e' (List.mem_cons_of_mem e h')
    unfold relL at h
    split at h
    · next h1 =>
        split at h
        · next x hx =>
            cases h
            have h2 := hf _ _ hx
            have h3 := hD e List.mem_cons_self
            rw [Nat.eq_of_beq_eq_true h1] at h3
            simp only
            omega
        · exact relL_ok hf rest h
    · exact relL_ok hf rest h
theorem relD_ok {ν : Nat → Int32} {D : sD} (hD : ∀ e ∈ D, e.2.2.1 ≤ (ν e.1).toInt - (ν e.2.1).toInt ∧ (ν e.1).toInt - (ν e.2.1).toInt ≤ e.2.2.2) {b : Nat} : ∀ {n u : Nat} {r : Int × Int}, relD D b n u = some r → r.1 ≤ (ν u).toInt - (ν b).toInt ∧ (ν u).toInt - (ν b).toInt ≤ r.2
  | 0, u, r, h => by
    unfold relD at h
    obtain ⟨h1, h2⟩ := bif_some h
    rw [Nat.eq_of_beq_eq_true h1, ← h2]
    simp only
    omega
  | n + 1, u, r, h => by
    unfold relD at h
    cases hb : Nat.beq u b with
    | true =>
      rw [hb] at h
      cases h
      rw [Nat.eq_of_beq_eq_true hb]
      simp only
      omega
    | false =>
      rw [hb] at h
      simp only [cond_false] at h
      exact relL_ok (ν := ν) (f := relD D b n) (u := u) (b := b) (fun w r hw => relD_ok hD hw) hD h
def relW (D : sD) (v : Nat) : Nat → Nat → Option (Int × Int)
  | 0, w => relD D w 6 v
  | n + 1, w => match relD D w 6 v with
    | some r => some r
    | none => (match lkD D w with
      | some d => (match relW D v n d.1 with
        | some r => some (r.1 - d.2.2, r.2 - d.2.1)
        | none => none)
      | none => none)
theorem relW_ok {ν : Nat → Int32} {D : sD} (hD : ∀ e ∈ D, e.2.2.1 ≤ (ν e.1).toInt - (ν e.2.1).toInt ∧ (ν e.1).toInt - (ν e.2.1).toInt ≤ e.2.2.2) {v : Nat} : ∀ {n w : Nat} {r : Int × Int}, relW D v n w = some r → r.1 ≤ (ν v).toInt - (ν w).toInt ∧ (ν v).toInt - (ν w).toInt ≤ r.2
  | 0, w, r, h => relD_ok hD h
  | n + 1, w, r, h => by
    unfold relW at h
    split at h
    · next r' hr =>
        cases h
        exact relD_ok hD hr
    · split at h
      · next d hd =>
          split at h
          · next r' hr =>
              cases h
              have h1 := relW_ok hD hr
              have h2 := hD _ (lkD_mem hd)
              simp only at h2 ⊢
              omega
          · cases h
      · cases h
/-- how far one value is from another -/
def difR (S : sS) (v w : Value) : Option (Int × Int) := match v with
  | .float u => (match w with
    | .float b => relW S.2.2.1 u.toNat 4 b.toNat
    | _ => none)
  | _ => none
theorem difR_ok {ν : Nat → Int32} {μ : Nat → Int64} {M : aM} {S : sS} (hs : sat ν μ M S) {v w : Value} {r : Int × Int} (h : difR S v w = some r) {x y : Int32} (hx : cq ν μ v = .int x) (hy : cq ν μ w = .int y) : r.1 ≤ x.toInt - y.toInt ∧ x.toInt - y.toInt ≤ r.2 := by
  unfold difR at h
  split at h
  · split at h
    · cases hx
      cases hy
      exact relW_ok hs.2.1 h
    · cases h
  · cases h
def difS (S : sS) (v w : Value) : Option (Int × Int) := match ivS S v with
  | some a => (match ivS S w with
    | some c => (match difR S v w with
      | some r => some (mxI r.1 (a.1 - c.2), mnI r.2 (a.2 - c.1))
      | none => some (a.1 - c.2, a.2 - c.1))
    | none => none)
  | none => none
theorem difS_ok {ν : Nat → Int32} {μ : Nat → Int64} {M : aM} {S : sS} (hs : sat ν μ M S) {v w : Value} {r : Int × Int} (h : difS S v w = some r) : ∃ x y : Int32, cq ν μ v = .int x ∧ cq ν μ w = .int y ∧ r.1 ≤ x.toInt - y.toInt ∧ x.toInt - y.toInt ≤ r.2 := by
  unfold difS at h
  split at h
  · next a ha =>
      split at h
      · next c hc =>
          obtain ⟨x, hx, hi⟩ := ivS_ok hs ha
          obtain ⟨y, hy, hj⟩ := ivS_ok hs hc
          have i1 := hi.1
          have i2 := hi.2
          have j1 := hj.1
          have j2 := hj.2
          refine ⟨x, y, hx, hy, ?_⟩
          split at h
          · next r' hr =>
              cases h
              have h1 := difR_ok hs hr hx hy
              exact ⟨mxI_ok h1.1 (by omega), mnI_ok h1.2 (by omega)⟩
          · cases h
            simp only
            omega
      · cases h
  · cases h
/-- what is learnt of a value, and so of what it came of -/
def addT (S : sS) (v : Value) (q : iI) : sS := match v with
  | .float u => (match lkD S.2.2.1 u.toNat with
    | some b => (S.1, (b.1, (mxI (lkT S.2.1 b.1).1 (q.1 - b.2.2), mnI (lkT S.2.1 b.1).2 (q.2 - b.2.1))) :: (u.toNat, q) :: S.2.1, S.2.2)
    | none => (S.1, (u.toNat, q) :: S.2.1, S.2.2))
  | _ => S
theorem addT_ok {ν : Nat → Int32} {μ : Nat → Int64} {M : aM} {S : sS} (hs : sat ν μ M S) {v : Value} {q : iI} {x : Int32} (hv : cq ν μ v = .int x) (hx : inI x q) : sat ν μ M (addT S v q) := by
  cases v <;> try exact hs
  next u =>
    cases hv
    unfold addT
    simp only
    split
    · next b hb =>
        have h1 := hs.2.1 _ (lkD_mem hb)
        have h2 := lkT_ok (u := b.1) hs.1
        have g1 := hx.1
        have g2 := hx.2
        simp only at h1
        have h3 : inI (ν b.1) (mxI (lkT S.2.1 b.1).1 (q.1 - b.2.2), mnI (lkT S.2.1 b.1).2 (q.2 - b.2.1)) := ⟨mxI_ok h2.1 (by omega), mnI_ok h2.2 (by omega)⟩
        exact ⟨List.forall_mem_cons.mpr ⟨h3, List.forall_mem_cons.mpr ⟨hx, hs.1⟩⟩, hs.2⟩
    · exact ⟨List.forall_mem_cons.mpr ⟨hx, hs.1⟩, hs.2⟩
/-- comparisons: what they say of both -/
def ngC (c : _root_.Jvm.ClassFile.Cond) : _root_.Jvm.ClassFile.Cond := match c with
  | .eq => .ne
  | .ne => .eq
  | .lt => .ge
  | .ge => .lt
  | .gt => .le
  | .le => .gt
theorem ngC_ok (c : _root_.Jvm.ClassFile.Cond) (x y : Int32) : brI (ngC c) x y = !brI c x y := by
  have e : ∀ a b : Int32, decide (a ≤ b) = !decide (b < a) := by
    intro a b
    by_cases h : b < a
    · have h2 : ¬ a ≤ b := by
        intro h3
        have := Int32.lt_iff_toInt_lt.mp h
        have := Int32.le_iff_toInt_le.mp h3
        omega
      simp [h, h2]
    · have h2 : a ≤ b := by
        rw [Int32.le_iff_toInt_le]
        rw [Int32.lt_iff_toInt_lt] at h
        omega
      simp [h, h2]
  cases c <;> simp [ngC, brI, e]
def neR (a b : iI) : iI := bif decide (b.1 = b.2) then ((bif decide (a.1 = b.1) then a.1 + 1 else a.1), (bif decide (a.2 = b.1) then a.2 - 1 else a.2)) else a
def rfT (c : _root_.Jvm.ClassFile.Cond) (a b : iI) : iI × iI := match c with
  | .lt => ((a.1, mnI a.2 (b.2 - 1)), (mxI b.1 (a.1 + 1), b.2))
  | .le => ((a.1, mnI a.2 b.2), (mxI b.1 a.1, b.2))
  | .gt => ((mxI a.1 (b.1 + 1), a.2), (b.1, mnI b.2 (a.2 - 1)))
  | .ge => ((mxI a.1 b.1, a.2), (b.1, mnI b.2 a.2))
  | .eq => ((mxI a.1 b.1, mnI a.2 b.2), (mxI a.1 b.1, mnI a.2 b.2))
  | .ne => (neR a b, neR b a)
theorem neR_ok {x y : Int32} {a b : iI} (h : x ≠ y) (hx : inI x a) (hy : inI y b) : inI x (neR a b) := by
  have h' : x.toInt ≠ y.toInt := fun e => h (Int32.toInt_inj.mp e)
  have h1 := hx.1
  have h2 := hx.2
  have h3 := hy.1
  have h4 := hy.2
  unfold neR
  cases g : decide (b.1 = b.2) with
  | false => exact hx
  | true =>
    have g := of_decide_eq_true g
    refine ⟨?_, ?_⟩
    · show (bif decide (a.1 = b.1) then a.1 + 1 else a.1) ≤ _
      cases g2 : decide (a.1 = b.1) with
      | true =>
        have g2 := of_decide_eq_true g2
        show a.1 + 1 ≤ _
        omega
      | false => exact h1
    · show _ ≤ (bif decide (a.2 = b.1) then a.2 - 1 else a.2)
      cases g2 : decide (a.2 = b.1) with
      | true =>
        have g2 := of_decide_eq_true g2
        show _ ≤ a.2 - 1
        omega
      | false => exact h2
theorem rfT_ok {c : _root_.Jvm.ClassFile.Cond} {x y : Int32} {a b : iI} (h : brI c x y = true) (hx : inI x a) (hy : inI y b) : inI x (rfT c a b).1 ∧ inI y (rfT c a b).2 := by
  have h1 := hx.1
  have h2 := hx.2
  have h3 := hy.1
  have h4 := hy.2
  cases c <;> simp only [brI, decide_eq_true_eq, Bool.not_eq_true', decide_eq_false_iff_not, Int32.lt_iff_toInt_lt, Int32.le_iff_toInt_le] at h <;> simp only [rfT]
  · subst h
    exact ⟨⟨mxI_ok h1 h3, mnI_ok h2 h4⟩, mxI_ok h1 h3, mnI_ok h2 h4⟩
  · exact ⟨neR_ok h hx hy, neR_ok (fun e => h e.symm) hy hx⟩
  · exact ⟨⟨h1, mnI_ok h2 (by omega)⟩, mxI_ok h3 (by omega), h4⟩
  · exact ⟨⟨mxI_ok h1 (by omega), h2⟩, h3, mnI_ok h4 (by omega)⟩
  · exact ⟨⟨mxI_ok h1 (by omega), h2⟩, h3, mnI_ok h4 (by omega)⟩
  · exact ⟨⟨h1, mnI_ok h2 (by omega)⟩, mxI_ok h3 (by omega), h4⟩
def neE (q : iI) : Bool := decide (q.1 ≤ q.2)
theorem neE_ok {x : Int32} {q : iI} (h : inI x q) : neE q = true := decide_eq_true (Int.le_trans h.1 h.2)
