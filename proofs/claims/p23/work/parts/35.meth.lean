/-! methods: loops by what holds at their heads and by a number that falls; a contract out of a check -/
/-- a start: slots as they were when the method began -/
def mkG : List (Nat × Nat × iI) → sS → Option sS
  | [], S => some S
  | q :: r, S => match fI [] [] [] S q.2.2 none with
    | some (w, S1) => mkG r (adC S1 q.1 q.2.1 w)
    | none => none
theorem mkG_ok {μ : Nat → Int64} {M : aM} : ∀ {L : List (Nat × Nat × iI)} {S S' : sS} {ν : Nat → Int32}, mkG L S = some S' → (∀ q ∈ L, inI (M.1 q.1 q.2.1) q.2.2) → sat ν μ M S → ∃ ν', sat ν' μ M S'
  | [], S, S', ν, h, _, hs => by
    cases h
    exact ⟨ν, hs⟩
  | q :: r, S, S', ν, h, hq, hs => by
    unfold mkG at h
    split at h
    · next w S1 hf =>
        obtain ⟨ν', -, -, -, k4, k5, -⟩ := fI_ok (x := M.1 q.1 q.2.1) hf (hq q List.mem_cons_self) (fun _ h => by cases h) hs
        exact mkG_ok h (fun q' h' => hq q' (List.mem_cons_of_mem _ h')) (adC_ok k4 k5)
    · cases h
/-- locals of a start -/
def mkL (pr : List Value) : List (Nat × pP) → List (Nat × Value) → sS → Option (List (Nat × Value) × sS)
  | [], lv, S => some (lv, S)
  | q :: r, lv, S => match psR pr lv [] S (some q.2) with
    | some (some w, S1) => mkL pr r ((q.1, w) :: lv) S1
    | _ => none
theorem mkL_ok {M : aM} {pr : List Value} {Lc : List (Nat × Value)} : ∀ {ps : List (Nat × pP)} {lv lv' : List (Nat × Value)} {S S' : sS} {ν : Nat → Int32} {μ : Nat → Int64}, mkL pr ps lv S = some (lv', S') → (∀ q ∈ ps, ∃ v, lk Lc q.1 = some v ∧ mP v q.2) → (∀ x ∈ lvq ν μ lv, lk Lc x.1 = some x.2) → sat ν μ M S → ∃ ν' μ', agq pr ν μ ν' μ' ∧ (∀ x ∈ lvq ν' μ' lv', lk Lc x.1 = some x.2) ∧ sat ν' μ' M S'
  | [], lv, lv', S, S', ν, μ, h, _, h1, h2 => by
    cases h
    exact ⟨ν, μ, agq.refl, h1, h2⟩
  | q :: r, lv, lv', S, S', ν, μ, h, hq, h1, h2 => by
    unfold mkL at h
    split at h
    · next w S1 hf =>
        obtain ⟨v, hv, hm⟩ := hq q List.mem_cons_self
        obtain ⟨ν1, μ1, k1, k2, -, k4, k5⟩ := psR_ok (v := some v) hf hm h2
        have k5 : cq ν1 μ1 w = v := Option.some.inj k5
        obtain ⟨ν2, μ2, j1, j2, j3⟩ := mkL_ok h (fun q' h' => hq q' (List.mem_cons_of_mem _ h')) (fun x hx => by
          have hx : x ∈ (q.1, cq ν1 μ1 w) :: lvq ν1 μ1 lv := hx
          rw [k5, k2] at hx
          rcases List.mem_cons.mp hx with rfl | hx
          · exact hv
          · exact h1 x hx) k4
        exact ⟨ν2, μ2, k1.trans j1, j2, j3⟩
    · cases h
/-- what the falling number is made of: locals (0, i, 0), slots (1, cell, slot) -/
abbrev sKy : Type := Nat × Nat × Nat
def kyV (lv : List (Nat × Value)) (C : sC) (y : sKy) : Option Value := match y.1 with
  | 0 => lk lv y.2.1
  | _ => lkM C y.2.1 y.2.2
def kyN (L : List (Nat × Value)) (M : aM) (y : sKy) : Int := match y.1 with
  | 0 => (match lk L y.2.1 with
    | some (.int x) => x.toInt
    | _ => 0)
  | _ => (M.1 y.2.1 y.2.2).toInt
theorem kyV_ok {ν : Nat → Int32} {μ : Nat → Int64} {M : aM} {S : sS} (hs : sat ν μ M S) {lv : List (Nat × Value)} {y : sKy} {v : Value} {x : Int32} (h : kyV lv S.2.2.2 y = some v) (hx : cq ν μ v = .int x) : kyN (lvq ν μ lv) M y = x.toInt := by
  unfold kyV at h
  unfold kyN
  split at h
  · rw [lk_q, h]
    simp only [Option.map_some, hx]
  · have := lkM_ok hs h
    rw [hx] at this
    rw [← Value.int.inj this]
def rkN (L : List (Nat × Value)) (M : aM) : List sKy → List Int → Int
  | y :: ys, c :: cs => c * kyN L M y + rkN L M ys cs
  | _, _ => 0
/-- an upper bound of c * v, of c * v - d * w -/
def hiC (c : Int) (a : iI) : Int := bif decide (0 ≤ c) then c * a.2 else c * a.1
theorem hiC_ok {c : Int} {x : Int} {a : iI} (h1 : a.1 ≤ x) (h2 : x ≤ a.2) : c * x ≤ hiC c a := by
  unfold hiC
  cases h : decide (0 ≤ c) with
  | true => exact Int.mul_le_mul_of_nonneg_left h2 (of_decide_eq_true h)
  | false =>
    have := of_decide_eq_false h
    exact Int.mul_le_mul_of_nonpos_left (by omega) h1
def kyI (S : sS) (v : Option Value) : Option iI := match v with
  | some v => ivS S v
  | none => none
/-- one term's part in the fall: S knows both ends -/
def bnT (S : sS) (c d : Int) (v w : Option Value) : Option Int := bif decide (c = 0) then (bif decide (d = 0) then some 0 else (match kyI S w with
    | some b => some (hiC (-d) b)
    | none => none))
  else (bif decide (c = d) then (match v with
      | some v => (match w with
        | some w => (match difS S v w with
          | some r => some (hiC c r)
          | none => none)
        | none => none)
      | none => none)
    else (match kyI S v with
      | some a => (bif decide (d = 0) then some (hiC c a) else (match kyI S w with
        | some b => some (hiC c a + hiC (-d) b)
        | none => none))
      | none => none))
theorem bnT_ok {ν : Nat → Int32} {μ : Nat → Int64} {M : aM} {S : sS} (hs : sat ν μ M S) {c d n : Int} {v w : Option Value} {x y : Int} (h : bnT S c d v w = some n) (hv : ∀ v', v = some v' → ∀ z : Int32, cq ν μ v' = .int z → x = z.toInt) (hw : ∀ w', w = some w' → ∀ z : Int32, cq ν μ w' = .int z → y = z.toInt) : c * x - d * y ≤ n := by
  have iv : ∀ {u : Option Value} {q : iI} {x : Int}, kyI S u = some q → (∀ v', u = some v' → ∀ z : Int32, cq ν μ v' = .int z → x = z.toInt) → q.1 ≤ x ∧ x ≤ q.2 := by
    intro u q x hu hx
    unfold kyI at hu
    split at hu
    · next v' =>
        obtain ⟨z, hz, hi⟩ := ivS_ok hs hu
        rw [hx v' rfl z hz]
        exact hi
    · cases hu
  have ng : ∀ d y : Int, -d * y = -(d * y) := fun d y => Int.neg_mul d y
  unfold bnT at h
  cases hc : decide (c = 0) with
  | true =>
    have hc' := of_decide_eq_true hc
    subst hc'
    rw [hc] at h
    simp only [cond_true] at h
    cases hd : decide (d = 0) with
    | true =>
      have hd' := of_decide_eq_true hd
      subst hd'
      rw [hd] at h
      cases h
      simp
    | false =>
      rw [hd] at h
      simp only [cond_false] at h
      split at h
      · next b hb =>
          cases h
          have i := iv hb hw
          have := hiC_ok (c := -d) i.1 i.2
          rw [ng] at this
          rw [Int.zero_mul]
          omega
      · cases h
  | false =>
    rw [hc] at h
    simp only [cond_false] at h
    cases he : decide (c = d) with
    | true =>
      have he' := of_decide_eq_true he
      subst he'
      rw [he] at h
      simp only [cond_true] at h
      split at h
      · next v' =>
          split at h
          · next w' =>
              split at h
              · next r hr =>
                  cases h
                  obtain ⟨z1, z2, e1, e2, e3, e4⟩ := difS_ok hs hr
                  rw [hv v' rfl z1 e1, hw w' rfl z2 e2, ← Int.mul_sub]
                  exact hiC_ok e3 e4
              · cases h
          · cases h
      · cases h
    | false =>
      rw [he] at h
      simp only [cond_false] at h
      split at h
      · next a ha =>
          have i := iv ha hv
          have j1 := hiC_ok (c := c) i.1 i.2
          cases hd : decide (d = 0) with
          | true =>
            have hd' := of_decide_eq_true hd
            subst hd'
            rw [hd] at h
            cases h
            rw [Int.zero_mul]
            omega
          | false =>
            rw [hd] at h
            simp only [cond_false] at h
            split at h
            · next b hb =>
                cases h
                have i2 := iv hb hw
                have j2 := hiC_ok (c := -d) i2.1 i2.2
                rw [ng] at j2
                omega
            · cases h
      · cases h
/-- an upper bound of the fall; a lower bound of the number -/
def bnS (S : sS) (lv lv0 : List (Nat × Value)) (C0 : sC) : List sKy → List Int → List Int → Option Int
  | y :: ys, c :: cs, d :: ds => match bnT S c d (kyV lv S.2.2.2 y) (kyV lv0 C0 y) with
    | some n => (match bnS S lv lv0 C0 ys cs ds with
      | some m => some (n + m)
      | none => none)
    | none => none
  | [], [], [] => some 0
  | _, _, _ => none
theorem bnS_ok {ν : Nat → Int32} {μ : Nat → Int64} {M M1 : aM} {S : sS} (hs : sat ν μ M S) {lv lv0 : List (Nat × Value)} {C0 : sC} {L0 : List (Nat × Value)} (h0 : ∀ y v, kyV lv0 C0 y = some v → ∀ z : Int32, cq ν μ v = .int z → kyN L0 M1 y = z.toInt) : ∀ {ys : List sKy} {cs ds : List Int} {n : Int}, bnS S lv lv0 C0 ys cs ds = some n → rkN (lvq ν μ lv) M ys cs - rkN L0 M1 ys ds ≤ n
  | y :: ys, c :: cs, d :: ds, n, h => by
    unfold bnS at h
    split at h
    · next a ha =>
        split at h
        · next m hm =>
            cases h
            have ih := bnS_ok hs h0 hm
            have h1 := bnT_ok (x := kyN (lvq ν μ lv) M y) (y := kyN L0 M1 y) hs ha (fun v' e z hz => kyV_ok hs e hz) (fun w' e z hz => h0 y w' e z hz)
            show (c * kyN (lvq ν μ lv) M y + rkN (lvq ν μ lv) M ys cs) - (d * kyN L0 M1 y + rkN L0 M1 ys ds) ≤ a + m
            omega
        · cases h
    · cases h
  | [], [], [], n, h => by
    cases h
    show (0 : Int) - 0 ≤ 0
    omega
  | [], [], _ :: _, n, h => by cases h
  | [], _ :: _, _, n, h => by cases h
  | _ :: _, [], _, n, h => by cases h
  | _ :: _, _ :: _, [], n, h => by cases h
def zsC : List Int → List Int
  | [] => []
  | _ :: r => 0 :: zsC r
theorem rk_zs (L : List (Nat × Value)) (M : aM) : ∀ (ys : List sKy) (cs : List Int), rkN L M ys (zsC cs) = 0
  | [], [] => rfl
  | [], _ :: _ => rfl
  | _ :: _, [] => rfl
  | y :: ys, c :: cs => by
    show 0 * _ + rkN L M ys (zsC cs) = 0
    rw [rk_zs L M ys cs, Int.zero_mul]
    rfl
def ngL : List Int → List Int
  | [] => []
  | c :: r => -c :: ngL r
theorem rk_ng (L : List (Nat × Value)) (M : aM) : ∀ (ys : List sKy) (cs : List Int), rkN L M ys (ngL cs) = -rkN L M ys cs
  | [], [] => rfl
  | [], _ :: _ => rfl
  | _ :: _, [] => rfl
  | y :: ys, c :: cs => by
    show -c * _ + rkN L M ys (ngL cs) = -(c * _ + rkN L M ys cs)
    rw [rk_ng L M ys cs, Int.neg_mul]
    omega
/-- how two terms stand to each other -/
abbrev sRl : Type := List (sKy × sKy × Int × Int)
/-- a loop's head: place, locals, slots, the number's constant and factors, how terms stand to each other -/
abbrev hdE : Type := Nat × List (Nat × pP) × pF2 × Int × List Int × sRl
abbrev hP (h : hdE) : Nat := h.1
abbrev hL' (h : hdE) : List (Nat × pP) := h.2.1
abbrev hM (h : hdE) : pF2 := h.2.2.1
abbrev hK (h : hdE) : Int := h.2.2.2.1
abbrev hC (h : hdE) : List Int := h.2.2.2.2.1
abbrev hR (h : hdE) : sRl := h.2.2.2.2.2
/-- what holds at a head -/
def hdG (ys : List sKy) (M0 : aM) (h : hdE) (n : Nat) (L : List (Nat × Value)) (M : aM) : Prop := (∀ q ∈ hL' h, ∃ v, lk L q.1 = some v ∧ mP v q.2) ∧ (∀ q ∈ hM h, m2 M0 M q) ∧ (∀ r ∈ hR h, r.2.2.1 ≤ kyN L M r.1 - kyN L M r.2.1 ∧ kyN L M r.1 - kyN L M r.2.1 ≤ r.2.2.2) ∧ 0 ≤ hK h + rkN L M ys (hC h) ∧ hK h + rkN L M ys (hC h) < (n : Int)
/-- does an arrival fit a head: Sg has the slots as they were at first -/
def arL (S : sS) (lv : List (Nat × Value)) (ps : List (Nat × pP)) : Bool := ps.all (fun q => match lk lv q.1 with
  | some v => mA S v q.2
  | none => false)
def m2B (R : sR) (S : sS) (Cg : sC) (q : Nat × Nat × iI × Option (Int × Int)) : Bool := (match slI R S q.1 q.2.1 with
  | some a => subI a q.2.2.1
  | none => false) && (match q.2.2.2 with
  | none => true
  | some d => (match lkM S.2.2.2 q.1 q.2.1 with
    | some v => (match lkM Cg q.1 q.2.1 with
      | some w => (match difS S v w with
        | some r => subI r d
        | none => false)
      | none => false)
    | none => false))
theorem m2B_ok {ν : Nat → Int32} {μ : Nat → Int64} {M0 M : aM} {R : sR} {S : sS} {Cg : sC} (hs : sat ν μ M S) (hR : ∀ e ∈ R.1, rgOk M e) (hg : ∀ a k w, lkM Cg a k = some w → cq ν μ w = .int (M0.1 a k)) {q : Nat × Nat × iI × Option (Int × Int)} (h : m2B R S Cg q = true) : m2 M0 M q := by
  unfold m2B at h
  rw [Bool.and_eq_true] at h
  obtain ⟨h1, h2⟩ := h
  refine ⟨?_, fun d hd => ?_⟩
  · split at h1
    · next a ha => exact subI_ok (slI_ok hs hR ha) h1
    · cases h1
  · rw [hd] at h2
    simp only at h2
    split at h2
    · next v hv =>
        split at h2
        · next w hw =>
            split at h2
            · next r hr =>
                obtain ⟨x, y, e1, e2, e3, e4⟩ := difS_ok hs hr
                have e5 := lkM_ok hs hv
                rw [e1] at e5
                have e6 := hg _ _ _ hw
                rw [e2] at e6
                rw [← Value.int.inj e5, ← Value.int.inj e6]
                rw [subI, Bool.and_eq_true, decide_eq_true_eq, decide_eq_true_eq] at h2
                omega
            · cases h2
        · cases h2
    · cases h2
def fdH (pc : Nat) : List hdE → Option hdE
  | [] => none
  | h :: r => match Nat.beq (hP h) pc with
    | true => some h
    | false => fdH pc r
theorem fdH_ok {pc : Nat} : ∀ {hs : List hdE} {h : hdE}, fdH pc hs = some h → h ∈ hs ∧ hP h = pc
  | [], _, h => by cases h
  | h' :: r, h, e => by
    unfold fdH at e
    split at e
    · next h1 =>
        cases e
        exact ⟨List.mem_cons_self, Nat.eq_of_beq_eq_true h1⟩
    · obtain ⟨h2, h3⟩ := fdH_ok e
      exact ⟨List.mem_cons_of_mem _ h2, h3⟩
/-- an answer that fits a case -/
def mRB (S : sS) (v : Option Value) (p : Option pP) : Bool := match p with
  | none => (match v with
    | none => true
    | some _ => false)
  | some p => (match v with
    | none => false
    | some v => mA S v p)
theorem mRB_ok {ν : Nat → Int32} {μ : Nat → Int64} {M : aM} {S : sS} (hs : sat ν μ M S) {v : Option Value} {p : Option pP} (h : mRB S v p = true) : mR (v.map (cq ν μ)) p := by
  unfold mRB at h
  cases p <;> cases v <;> first
    | trivial
    | (cases h; done)
    | exact mA_ok hs h
def poB (R : sR) (e : cE) (Cg : sC) (r : aR) (S : sS) : Bool := match r with
  | .inl v => (eC e).any (fun c => mRB S v c.1 && c.2.all (fun q => m2B R S Cg q))
  | .inr X => (eX e).any (fun y => decide (y = X))
theorem poB_ok {ν : Nat → Int32} {μ : Nat → Int64} {M0 M : aM} {R : sR} {e : cE} {S : sS} {Cg : sC} {r : aR} (hs : sat ν μ M S) (hR : ∀ e ∈ R.1, rgOk M e) (hg : ∀ a k w, lkM Cg a k = some w → cq ν μ w = .int (M0.1 a k)) (h : poB R e Cg r S = true) : pOk e M0 M (rq ν μ r) := by
  unfold poB at h
  cases r with
  | inl v =>
    obtain ⟨c, hc, h1⟩ := List.any_eq_true.mp h
    rw [Bool.and_eq_true, List.all_eq_true] at h1
    exact ⟨c, hc, mRB_ok hs h1.1, fun q hq => m2B_ok hs hR hg (h1.2 q hq)⟩
  | inr X =>
    obtain ⟨y, hy, h1⟩ := List.any_eq_true.mp h
    rw [decide_eq_true_eq] at h1
    subst h1
    exact hy
/-- two terms stand to each other as is asked -/
def rlB (S : sS) (lv : List (Nat × Value)) (r : sKy × sKy × Int × Int) : Bool := match kyV lv S.2.2.2 r.1 with
  | some v => (match kyV lv S.2.2.2 r.2.1 with
    | some w => (match difS S v w with
      | some d => subI d (r.2.2.1, r.2.2.2)
      | none => false)
    | none => false)
  | none => false
theorem rlB_ok {ν : Nat → Int32} {μ : Nat → Int64} {M : aM} {S : sS} (hs : sat ν μ M S) {lv : List (Nat × Value)} {r : sKy × sKy × Int × Int} (h : rlB S lv r = true) : r.2.2.1 ≤ kyN (lvq ν μ lv) M r.1 - kyN (lvq ν μ lv) M r.2.1 ∧ kyN (lvq ν μ lv) M r.1 - kyN (lvq ν μ lv) M r.2.1 ≤ r.2.2.2 := by
  unfold rlB at h
  split at h
  · next v hv =>
      split at h
      · next w hw =>
          split at h
          · next d hd =>
              obtain ⟨x, y, e1, e2, e3, e4⟩ := difS_ok hs hd
              rw [kyV_ok hs hv e1, kyV_ok hs hw e2]
              rw [subI, Bool.and_eq_true, decide_eq_true_eq, decide_eq_true_eq] at h
              have h1 : r.2.2.1 ≤ d.1 := h.1
              have h2 : d.2 ≤ r.2.2.2 := h.2
              omega
          · cases h
      · cases h
  · cases h
/-- at a head: what is known of two terms goes into the differences -/
def adR (lv : List (Nat × Value)) : sRl → sS → sS
  | [], S => S
  | r :: rs, S => adR lv rs (match kyV lv S.2.2.2 r.1 with
    | some (.float u) => (match kyV lv S.2.2.2 r.2.1 with
      | some (.float b) => (S.1, S.2.1, (u.toNat, b.toNat, r.2.2.1, r.2.2.2) :: S.2.2.1, S.2.2.2)
      | _ => S)
    | _ => S)
theorem adR_ok2 {ν : Nat → Int32} {μ : Nat → Int64} {M : aM} {lv L : List (Nat × Value)} : ∀ {rs : sRl} {S : sS}, sat ν μ M S → (∀ y : sKy, ∀ v, kyV lv S.2.2.2 y = some v → ∀ z : Int32, cq ν μ v = .int z → kyN L M y = z.toInt) → (∀ r ∈ rs, r.2.2.1 ≤ kyN L M r.1 - kyN L M r.2.1 ∧ kyN L M r.1 - kyN L M r.2.1 ≤ r.2.2.2) → sat ν μ M (adR lv rs S)
  | [], S, hs, _, _ => hs
  | r :: rs, S, hs, hk, hr => by
    have h1 := hr r List.mem_cons_self
    have rest := fun r' h' => hr r' (List.mem_cons_of_mem r h')
    unfold adR
    split
    · next u hu =>
        split
        · next b hb =>
            have e1 := hk _ _ hu (ν u.toNat) rfl
            have e2 := hk _ _ hb (ν b.toNat) rfl
            rw [e1, e2] at h1
            exact adR_ok2 (rs := rs) ⟨hs.1, List.forall_mem_cons.mpr ⟨h1, hs.2.1⟩, hs.2.2⟩ hk rest
        · exact adR_ok2 hs hk rest
    · exact adR_ok2 hs hk rest
/-- does an arrival fit a head -/
def fiH (R : sR) (e : cE) (ys : List sKy) (Cg : sC) (fall : Bool) (lv0 : List (Nat × Value)) (C0 : sC) (k0 : Int) (cs0 : List Int) (y : sK × Nat × Nat) (h : hdE) : Bool :=
  Nat.beq (hP h) y.1.1 && (y.1.2.2.1.isEmpty && (arL y.1.2.2.2 y.1.2.1 (hL' h) && ((hM h).all (fun q => m2B R y.1.2.2.2 Cg q) && ((hR h).all (rlB y.1.2.2.2 y.1.2.1) && ((match bnS y.1.2.2.2 y.1.2.1 lv0 C0 ys (ngL (hC h)) (zsC (hC h)) with
    | some n => decide (n ≤ hK h)
    | none => false) && (!fall || (match bnS y.1.2.2.2 y.1.2.1 lv0 C0 ys (hC h) cs0 with
    | some n => decide (hK h + n < k0)
    | none => false)))))))
/-- all ends of a run fit: lv0, C0, k0, cs0 of the start, for the fall -/
def xC (R : sR) (e : cE) (hs : List hdE) (ys : List sKy) (Cg : sC) (fall : Bool) (lv0 : List (Nat × Value)) (C0 : sC) (k0 : Int) (cs0 : List Int) (x : sX) : Bool := match x with
  | .inr y => poB R e Cg y.1 y.2
  | .inl y => hs.any (fiH R e ys Cg fall lv0 C0 k0 cs0 y)
/-- arguments' places -/
def catP (p : pP) : Nat := match p with
  | none => 2
  | some (.inl w) => (if w.category = 2 then 2 else 1)
  | some (.inr _) => 1
def argP : Nat → List pP → List (Nat × pP)
  | _, [] => []
  | i, p :: r => (i, p) :: argP (i + catP p) r
theorem mP_cat {v : Value} {p : pP} (h : mP v p) : (if v.category = 2 then 2 else 1) = catP p := by
  cases p with
  | none =>
    obtain ⟨x, rfl⟩ := h
    rfl
  | some p =>
    cases p with
    | inl w =>
      have h : v = w := h
      subst h
      rfl
    | inr q =>
      obtain ⟨x, rfl, -⟩ := h
      rfl
theorem mP_cat2 {v : Value} {p : pP} (h : mP v p) (i : Nat) : (if v.category = 2 then i + 2 else i + 1) = i + catP p := by
  rw [← mP_cat h]
  split <;> rfl
theorem lk_args_lt : ∀ (av : List Value) (i j : Nat), j < i → lk (lv_args i av) j = none
  | [], _, _, _ => rfl
  | v :: r, i, j, h => by
    show (if i = j then some v else lk (lv_args (if v.category = 2 then i + 2 else i + 1) r) j) = none
    rw [if_neg (by omega)]
    exact lk_args_lt r _ j (by split <;> omega)
theorem argP_ok : ∀ {av : List Value} {ps : List pP} {i : Nat}, mL2 av ps → ∀ q ∈ argP i ps, i ≤ q.1 ∧ ∃ v, lk (lv_args i av) q.1 = some v ∧ mP v q.2
  | [], [], _, _, q, hq => absurd hq List.not_mem_nil
  | v :: r, p :: s, i, h, q, hq => by
    obtain ⟨h1, h2⟩ := h
    rcases List.mem_cons.mp hq with rfl | hq
    · refine ⟨Nat.le_refl _, v, ?_, h1⟩
      show (if i = i then some v else _) = some v
      rw [if_pos rfl]
    · have hq : q ∈ argP (i + catP p) s := hq
      rw [← mP_cat2 h1 i] at hq
      obtain ⟨g1, w, g2, g3⟩ := argP_ok (i := if v.category = 2 then i + 2 else i + 1) h2 q hq
      have g4 : i < q.1 := by
        have : i < (if v.category = 2 then i + 2 else i + 1) := by split <;> omega
        omega
      refine ⟨Nat.le_of_lt g4, w, ?_, g3⟩
      show (if i = q.1 then some v else lk (lv_args (if v.category = 2 then i + 2 else i + 1) r) q.1) = some w
      rw [if_neg (by omega)]
      exact g2
  | [], _ :: _, _, h, _, _ => by cases h
  | _ :: _, [], _, h, _, _ => by cases h
def lenP : List pP → Nat
  | [] => 0
  | p :: r => catP p + lenP r
theorem lenP_ok : ∀ {av : List Value} {ps : List pP}, mL2 av ps → (lg_sl av).length = lenP ps
  | [], [], _ => rfl
  | v :: r, p :: s, h => by
    obtain ⟨h1, h2⟩ := h
    have ih := lenP_ok h2
    have e : (lg_sl (v :: r)).length = (if v.category = 2 then 2 else 1) + (lg_sl r).length := by
      simp only [lg_sl, List.flatMap_cons, List.length_append]
      split <;> rfl
    show (lg_sl (v :: r)).length = catP p + lenP s
    rw [e, ih, mP_cat h1]
  | [], _ :: _, h => by cases h
  | _ :: _, [], h => by cases h
abbrev vlC (C : sC) : List Value := C.map (fun z => z.2.2)
abbrev vlL (lv : List (Nat × Value)) : List Value := lv.map (fun z => z.2)
/-- the check of a method -/
noncomputable def mC (g : aPg) (R : sR) (sh : aH) (mt : sMt) (ct : List cE) (e : cE) (hs : List hdE) (ys : List sKy) (n : Nat) : Bool :=
  match mkG (eB e) (0, [], [], []) with
  | some Sg => (match mkL (vlC Sg.2.2.2) (argP 0 (eA e)) [] Sg with
    | some (lv, S) => (match rn g R (eW e) sh mt ct n (vlC Sg.2.2.2 ++ (vlL lv ++ vlC S.2.2.2)) (eJ e) (hs.map hP) (eKc e) (eKs e) (0, lv, [], S) with
      | some Xs => Xs.all (xC R e hs ys Sg.2.2.2 false lv S.2.2.2 0 []) && hs.all (fun h => match mkL (vlC Sg.2.2.2) (hL' h) [] (Sg.1, Sg.2.1, Sg.2.2.1, []) with
        | some (lv1, S1) => (match psS (vlC Sg.2.2.2) lv1 [] Sg (hM h) S1 with
          | some S2 => (match rn g R (eW e) sh mt ct n (vlC Sg.2.2.2 ++ (vlL lv1 ++ vlC S2.2.2.2)) (eJ e) (hs.map hP) 0 0 (hP h, lv1, [], adR lv1 (hR h) S2) with
            | some Ys => Ys.all (xC R e hs ys Sg.2.2.2 true lv1 S2.2.2.2 (hK h) (hC h))
            | none => false)
          | none => false)
        | none => false)
      | none => false)
    | none => false)
  | none => false
theorem mem_vlC {C : sC} {z : Nat × Nat × Value} (h : z ∈ C) : z.2.2 ∈ vlC C := List.mem_map.mpr ⟨z, h, rfl⟩
theorem mem_vlL {lv : List (Nat × Value)} {z : Nat × Value} (h : z ∈ lv) : z.2 ∈ vlL lv := List.mem_map.mpr ⟨z, h, rfl⟩
/-- one end of a run: at a head, or the method's own -/
theorem xC_ok {l : aL} {g : aPg} {R : sR} {sh : aH} {e : cE} {hs : List hdE} {ys : List sKy} {Cg C0 : sC} {fall : Bool} {lv0 : List (Nat × Value)} {k0 : Int} {cs0 : List Int} {x : sX} {M0 M1 : aM} {L0 : List (Nat × Value)} {ν : Nat → Int32} {μ : Nat → Int64} (B : Nat)
    (hg : ∀ a k w, lkM Cg a k = some w → cq ν μ w = .int (M0.1 a k)) (hl : ∀ z ∈ lvq ν μ lv0, lk L0 z.1 = some z.2) (hc : ∀ a k w, lkM C0 a k = some w → cq ν μ w = .int (M1.1 a k))
    (ih : ∀ h ∈ hs, ∀ L M, hdG ys M0 h B L M → Jm R (eW e) M0 M → AW l (pI g (eJ e)) (fun r sh' M => sh' = sh ∧ Jm R (eW e) M0 M ∧ pOk e M0 M r) 0 0 (hP h) L [] sh M)
    (hB : ∀ v : Int, 0 ≤ v → (fall = true → v < k0 + rkN L0 M1 ys cs0) → v < (B : Int) ∨ fall = false) (hB2 : fall = false → ∀ h ∈ hs, ∀ L M, hdG ys M0 h ((hK h + rkN L M ys (hC h)).toNat + 1) L M → Jm R (eW e) M0 M → AW l (pI g (eJ e)) (fun r sh' M => sh' = sh ∧ Jm R (eW e) M0 M ∧ pOk e M0 M r) 0 0 (hP h) L [] sh M)
    (hx : xC R e hs ys Cg fall lv0 C0 k0 cs0 x = true) : xh l (pI g (eJ e)) (fun r sh' M => sh' = sh ∧ Jm R (eW e) M0 M ∧ pOk e M0 M r) sh (vlC Cg ++ (vlL lv0 ++ vlC C0)) (Jm R (eW e) M0) ν μ x := by
  cases x with
  | inr y =>
    intro ν' μ' M' hag hs' hJ'
    exact ⟨rfl, hJ', poB_ok hs' hJ'.1 (fun a k w hw => (hag _ (List.mem_append_left _ (mem_vlC (lkM_mem hw)))).trans (hg a k w hw)) hx⟩
  | inl y =>
    obtain ⟨⟨pc, lv, st, S⟩, k1, k2⟩ := y
    intro ν' μ' M' hag hs' hJ'
    simp only at hs' ⊢
    obtain ⟨h, hm, hx⟩ := List.any_eq_true.mp hx
    unfold fiH at hx
    simp only [Bool.and_eq_true] at hx
    obtain ⟨x0, xe, x3, x4, x7, x5, x6⟩ := hx
    have hpc := Nat.eq_of_beq_eq_true x0
    have xe := List.isEmpty_iff.mp xe
    subst hpc
    subst xe
    refine AW.mono (Nat.zero_le _) (Nat.zero_le _) ?_
    have h0 : ∀ y v, kyV lv0 C0 y = some v → ∀ z : Int32, cq ν' μ' v = .int z → kyN L0 M1 y = z.toInt := by
      intro y v hy z hz
      unfold kyV at hy
      unfold kyN
      split at hy
      · have hmem := lk_mem hy
        have e1 := hag _ (List.mem_append_right _ (List.mem_append_left _ (mem_vlL hmem)))
        simp only at e1
        rw [hz] at e1
        have e2 := hl (y.2.1, cq ν μ v) (List.mem_map.mpr ⟨_, hmem, rfl⟩)
        simp only at e2
        rw [e2, ← e1]
      · have hmem := lkM_mem hy
        have e1 := hag _ (List.mem_append_right _ (List.mem_append_right _ (mem_vlC hmem)))
        have e2 := hc _ _ _ hy
        simp only at e1 e2
        rw [hz, e2] at e1
        rw [Value.int.inj e1]
    have pats : ∀ q ∈ hL' h, ∃ v, lk (lvq ν' μ' lv) q.1 = some v ∧ mP v q.2 := by
      intro q hq
      have h1 := List.all_eq_true.mp x3 q hq
      split at h1
      · next v hv => exact ⟨cq ν' μ' v, by rw [lk_q, hv]; rfl, mA_ok hs' h1⟩
      · cases h1
    have mems : ∀ q ∈ hM h, m2 M0 M' q := fun q hq => m2B_ok hs' hJ'.1 (fun a k w hw => (hag _ (List.mem_append_left _ (mem_vlC (lkM_mem hw)))).trans (hg a k w hw)) (List.all_eq_true.mp x4 q hq)
    have rels : ∀ r ∈ hR h, r.2.2.1 ≤ kyN (lvq ν' μ' lv) M' r.1 - kyN (lvq ν' μ' lv) M' r.2.1 ∧ kyN (lvq ν' μ' lv) M' r.1 - kyN (lvq ν' μ' lv) M' r.2.1 ≤ r.2.2.2 := fun r hr => rlB_ok hs' (List.all_eq_true.mp x7 r hr)
    have low : 0 ≤ hK h + rkN (lvq ν' μ' lv) M' ys (hC h) := by
      split at x5
      · next n hn =>
          have h1 := bnS_ok (L0 := L0) (M1 := M1) hs' h0 hn
          rw [rk_ng, rk_zs] at h1
          have := of_decide_eq_true x5
          omega
      · cases x5
    cases hf : fall with
    | false => exact hB2 hf h hm _ M' ⟨pats, mems, rels, low, by omega⟩ hJ'
    | true =>
      rw [hf] at x6
      simp only [Bool.not_true, Bool.false_or] at x6
      split at x6
      · next n hn =>
          have h1 := bnS_ok (L0 := L0) (M1 := M1) hs' h0 hn
          have h2 := of_decide_eq_true x6
          rcases hB _ low (fun _ => by omega) with h3 | h3
          · exact ih h hm _ M' ⟨pats, mems, rels, low, h3⟩ hJ'
          · rw [hf] at h3
            cases h3
      · cases x6
/-- A METHOD'S CONTRACT, out of its check -/
theorem meth_ok {l : aL} {g : aPg} {R : sR} {sh : aH} {mt : sMt} {ct : List cE} {e : cE} {hs : List hdE} {ys : List sKy} {n : Nat} (G : pgOk g) (hmt : mtOk g mt) (hl0 : l.1.stackTraces = false) (hct : ∀ e ∈ ct, cOk l g R sh e) (ho : okI (pI g (eJ e))) (hlen : lenP (eA e) ≤ iL (pI g (eJ e))) (h : mC g R sh mt ct e hs ys n = true) : cOk l g R sh e := by
  unfold mC at h
  split at h
  · next Sg hG =>
      split at h
      · next lv S hL =>
          split at h
          · next Xs hX =>
              rw [Bool.and_eq_true, List.all_eq_true, List.all_eq_true] at h
              obtain ⟨hXs, hHs⟩ := h
              intro M0 av hav hJR hB
              refine AC.of hl0 ho.1 ho.2.1 ho.2.2 (by rw [lenP_ok hav]; exact hlen) ?_
              obtain ⟨νg, hsg⟩ := mkG_ok (ν := fun _ => 0) (μ := fun _ => 0) hG hB ⟨fun _ h => absurd h List.not_mem_nil, fun _ h => absurd h List.not_mem_nil, fun _ h => absurd h List.not_mem_nil⟩
              have hJ0 : Jm R (eW e) M0 M0 := ⟨hJR.1, hJR.2, fun _ _ _ => rfl, rfl⟩
              have heads : ∀ (B : Nat) (h : hdE), h ∈ hs → ∀ (L : List (Nat × Value)) (M : aM), hdG ys M0 h B L M → Jm R (eW e) M0 M → AW l (pI g (eJ e)) (fun r sh' M => sh' = sh ∧ Jm R (eW e) M0 M ∧ pOk e M0 M r) 0 0 (hP h) L [] sh M := by
                intro B
                induction B with
                | zero =>
                  intro h hh L M hd hJ
                  have h1 := hd.2.2.2.1
                  have h2 := hd.2.2.2.2
                  exact absurd h2 (by omega)
                | succ B ih =>
                  intro h hh L M hd hJ
                  have hc := hHs h hh
                  split at hc
                  · next lv1 S1 hL1 =>
                      split at hc
                      · next S2 hS2 =>
                          split at hc
                          · next Ys hY =>
                              rw [List.all_eq_true] at hc
                              obtain ⟨ν1, μ1, a1, a2, a3⟩ := mkL_ok (M := M) (Lc := L) (ν := νg) (μ := fun _ => 0) hL1 hd.1 (fun _ h => absurd h List.not_mem_nil) ⟨hsg.1, hsg.2.1, fun _ h => absurd h List.not_mem_nil⟩
                              obtain ⟨ν2, b1, b2, b3, b4⟩ := psS_ok (M := M) hsg (fun z hz => mem_vlC hz) hS2 hd.2.1 a1 a3
                              have hkn : ∀ y : sKy, ∀ v, kyV lv1 S2.2.2.2 y = some v → ∀ z : Int32, cq ν2 μ1 v = .int z → kyN L M y = z.toInt := by
                                intro y v hy z hz
                                unfold kyV at hy
                                unfold kyN
                                split at hy
                                · have e2 := a2 (y.2.1, cq ν1 μ1 v) (List.mem_map.mpr ⟨_, lk_mem hy, rfl⟩)
                                  have e3 := b2
                                  simp only [lvq] at e3
                                  have e4 : cq ν2 μ1 v = cq ν1 μ1 v := (Prod.mk.inj (List.map_inj_left.mp e3 _ (lk_mem hy))).2
                                  simp only at e2
                                  rw [e2, ← e4, hz]
                                · have e2 := lkM_ok b4 hy
                                  rw [hz] at e2
                                  rw [← Value.int.inj e2]
                              have b5 := adR_ok2 b4 hkn hd.2.2.1
                              have hk := rn_ok (W := eW e) (M0 := M0) G hmt hl0 hct n _ _ _ _ _ _ _ hY _ ν2 μ1 M b5 hJ (fun x hx => xC_ok (L0 := L) (M1 := M) B (fun a k w hw => (b1 _ (mem_vlC (lkM_mem hw))).trans (lkM_ok hsg hw)) (by rw [b2]; exact a2) (fun a k w hw => lkM_ok b4 hw) ih (fun v hv hf => Or.inl (by have h1 := hd.2.2.2.2; have h2 := hf rfl; omega)) (fun hf => by cases hf) (hc x hx))
                              simp only at hk
                              rw [b2] at hk
                              exact AW.drop (fun x hx => lk_mem (a2 x hx)) hk
                          · cases hc
                      · cases hc
                  · cases hc
              obtain ⟨ν1, μ1, a1, a2, a3⟩ := mkL_ok (M := M0) (Lc := lv_args 0 av) (ν := νg) (μ := fun _ => 0) hL (fun q hq => (argP_ok hav q hq).2) (fun _ h => absurd h List.not_mem_nil) hsg
              have hk := rn_ok (W := eW e) (M0 := M0) G hmt hl0 hct n _ _ _ _ _ _ _ hX _ ν1 μ1 M0 a3 hJ0 (fun x hx => xC_ok (L0 := lv_args 0 av) (M1 := M0) 0 (fun a k w hw => (a1 _ (mem_vlC (lkM_mem hw))).trans (lkM_ok hsg hw)) a2 (fun a k w hw => lkM_ok a3 hw) (fun h hh L M hd _ => absurd hd.2.2.2.2 (by have h1 := hd.2.2.2.1; omega)) (fun _ _ _ => Or.inr rfl) (fun _ h hh L M hd hJ => heads _ h hh L M hd hJ) (hXs x hx))
              exact AW.drop (fun x hx => lk_mem (a2 x hx)) hk
          · cases h
      · cases h
  · cases h
