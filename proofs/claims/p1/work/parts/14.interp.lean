/-! A machine over written memory (lists of what was written): runs that are closed are decided by computing. -/
abbrev gM : Type := List (Nat × Nat × Value) × List (Nat × Nat × Int64) × List (Nat × Nat × Nat)
def gk {α : Type} (z : α) : List (Nat × Nat × α) → Nat → Nat → α
  | [], _, _ => z
  | q :: r, i, k => match Nat.beq q.1 i && Nat.beq q.2.1 k with
    | true => q.2.2
    | false => gk z r i k
def gp {α : Type} (z : α → Bool) (g : List (Nat × Nat × α)) (i k : Nat) (x : α) : List (Nat × Nat × α) := match z x with
  | true => g.filter (fun q => !(Nat.beq q.1 i && Nat.beq q.2.1 k))
  | false => (i, k, x) :: g.filter (fun q => !(Nat.beq q.1 i && Nat.beq q.2.1 k))
theorem gk_filter {α : Type} (z : α) (i k : Nat) : ∀ (g : List (Nat × Nat × α)) (a c : Nat), gk z (g.filter (fun q => !(Nat.beq q.1 i && Nat.beq q.2.1 k))) a c = if a = i ∧ c = k then z else gk z g a c
  | [], a, c => by simp [gk]
  | q :: r, a, c => by
    have ih := gk_filter z i k r a c
    by_cases h : (Nat.beq q.1 i && Nat.beq q.2.1 k) = true
    · rw [List.filter_cons_of_neg (by simp [h]), ih]
      by_cases h2 : a = i ∧ c = k
      · rw [if_pos h2, if_pos h2]
      · rw [if_neg h2, if_neg h2]
        simp only [Bool.and_eq_true, Nat.beq_eq] at h
        have h3 : (Nat.beq q.1 a && Nat.beq q.2.1 c) = false := by
          rw [Bool.eq_false_iff]
          intro h4
          simp only [Bool.and_eq_true, Nat.beq_eq] at h4
          exact h2 ⟨h4.1.symm.trans h.1, h4.2.symm.trans h.2⟩
        conv => rhs; unfold gk
        rw [h3]
    · rw [List.filter_cons_of_pos (by rw [Bool.not_eq_true']; exact Bool.eq_false_iff.mpr h)]
      by_cases h3 : (Nat.beq q.1 a && Nat.beq q.2.1 c) = true
      · conv => lhs; unfold gk
        rw [h3]
        have h2 : ¬ (a = i ∧ c = k) := by
          intro h4
          obtain ⟨rfl, rfl⟩ := h4
          exact h h3
        rw [if_neg h2]
        conv => rhs; unfold gk
        rw [h3]
      · have h3 : (Nat.beq q.1 a && Nat.beq q.2.1 c) = false := Bool.eq_false_iff.mpr h3
        conv => lhs; unfold gk
        rw [h3]
        show gk z (r.filter _) a c = _
        rw [ih]
        conv => rhs; unfold gk
        rw [h3]
theorem gk_gp {α : Type} {z : α} {b : α → Bool} {g : List (Nat × Nat × α)} {i k : Nat} {x : α} (hb : b x = true → x = z) : gk z (gp b g i k x) = upd2 (gk z g) i k x := by
  funext a c
  unfold gp
  split
  · next h =>
    rw [gk_filter, hb h]
    simp only [upd2]
    by_cases h1 : a = i <;> by_cases h2 : c = k <;> simp [h1, h2]
  · next h =>
    conv => lhs; unfold gk
    split
    · next h3 =>
      simp only [Bool.and_eq_true, Nat.beq_eq] at h3
      simp [upd2, h3.1.symm, h3.2.symm]
    · next h3 =>
      rw [gk_filter]
      have h4 : ¬ (a = i ∧ c = k) := by
        intro h5
        obtain ⟨rfl, rfl⟩ := h5
        simp at h3
      simp only [upd2]
      by_cases h1 : a = i
      · have h2 : ¬ c = k := fun h => h4 ⟨h1, h⟩
        simp [h1, h2]
      · simp [h1]
/-- codes of unknown ints in use -/
def okU (u : UInt32) : Bool := Nat.blt u.toNat 1024
theorem okU_lt {u : UInt32} (h : okU u = true) : u.toNat < 1024 := Nat.blt_eq.mp h
theorem okU_ne {u : UInt32} (h : okU u = true) : u ≠ 4294967295 := by
  intro e
  subst e
  exact absurd h (by decide)
/-- an int, known or not -/
def sy (v : Value) : Bool := match v with
  | .int _ => true
  | .float u => okU u
  | _ => false
def iv (xs : Nat → Int32) (v : Value) : Int32 := match v with
  | .int x => x
  | .float u => evE xs u
  | _ => 0
def un (xs : Nat → Int32) (v : Value) : Value := match v with
  | .float u => if u = 4294967295 then .float u else .int (evE xs u)
  | v => v
theorem cv_f {G : aG} {xs : Nat → Int32} (hx : G.2.2.2.2 = xs) {u : UInt32} (h : okU u = true) : cv G (.float u) = .int (evE xs u) := by
  show cvF G.2.2.2.2 u = _
  rw [hx, cvF, if_neg (okU_ne h)]
theorem un_cv {G : aG} {xs : Nat → Int32} (hx : G.2.2.2.2 = xs) (v : Value) : cv G v = cv G (un xs v) := by
  cases v <;> try rfl
  next u =>
    simp only [un]
    split
    · rfl
    · next h =>
        show cvF G.2.2.2.2 u = _
        rw [hx, cvF, if_neg h]
        rfl
theorem sy_int {v : Value} (h : sy v = true) (G : aG) : ∃ x : Int32, cv G v = .int x := by
  cases v <;> first
    | (simp [sy] at h; done)
    | exact ⟨_, rfl⟩
    | exact ⟨_, cv_f rfl h⟩
theorem sy_den {G : aG} {xs : Nat → Int32} (hx : G.2.2.2.2 = xs) {v : Value} (h : sy v = true) : cv G (.int (iv xs v)) = cv G v := by
  cases v <;> first
    | (simp [sy] at h; done)
    | rfl
    | exact (cv_f hx h).symm
theorem map_top {G : aG} {v w : Value} {st : List Value} (h : cv G v = cv G w) : (v :: st).map (cv G) = (w :: st).map (cv G) := by rw [List.map_cons, List.map_cons, h]
theorem map_2 {G : aG} {a v w : Value} {st : List Value} (h : cv G v = cv G w) : (a :: v :: st).map (cv G) = (a :: w :: st).map (cv G) := by rw [List.map_cons, List.map_cons, List.map_cons, List.map_cons, h]
def den (xs : Nat → Int32) (g : gM) : aM := (fun i k => iv xs (gk (.int 0) g.1 i k), gk 0 g.2.1, gk 0 g.2.2)
def gO (v : Value) : Bool := match v with
  | .float u => okU u
  | _ => true
def gset (g : gM) (i k : Nat) (v : Value) : gM := match v with
  | .int x => (gp (fun y => decide (y = .int 0)) g.1 i k (.int x), g.2.1, g.2.2)
  | .float u => (gp (fun y => decide (y = .int 0)) g.1 i k (.float u), g.2.1, g.2.2)
  | .long x => (g.1, gp (fun y => decide (y = 0)) g.2.1 i k x, g.2.2)
  | .ref j => (g.1, g.2.1, gp (fun y => Nat.beq y 0) g.2.2 i k (j + 1))
  | .null => (g.1, g.2.1, gp (fun y => Nat.beq y 0) g.2.2 i k 0)
  | _ => g
theorem iv_upd (xs : Nat → Int32) (f : Nat → Nat → Value) (i k : Nat) (v : Value) : (fun a c => iv xs (upd2 f i k v a c)) = upd2 (fun a c => iv xs (f a c)) i k (iv xs v) := by
  funext a c
  simp only [upd2]
  by_cases h1 : a = i
  · by_cases h2 : c = k
    · simp [h1, h2]
    · simp [h1, h2]
  · simp [h1]
theorem den_gset {xs : Nat → Int32} {g : gM} {i k : Nat} {v : Value} (h : gO v = true) : den xs (gset g i k v) = aset (den xs g) i k (un xs v) := by
  cases v <;> simp only [gset, den] <;> try rfl
  · rw [gk_gp (fun h => by simpa using h), iv_upd]
    rfl
  · rw [gk_gp (fun h => by simpa using h)]
    rfl
  · rw [gk_gp (fun h => by simpa using h), iv_upd]
    simp only [un, if_neg (okU_ne h)]
    rfl
  · rw [gk_gp (fun h => by simpa using h)]
    rfl
  · rw [gk_gp (fun h => by simpa using h)]
    rfl
/-- a slot's value as it was written -/
def gv (m : gM) (j f : Nat) (ty : FieldType) : Value := match ty with
  | .long => .long (gk 0 m.2.1 j f)
  | .object _ => (match gk 0 m.2.2 j f with | 0 => .null | i + 1 => .ref i)
  | .array _ => (match gk 0 m.2.2 j f with | 0 => .null | i + 1 => .ref i)
  | _ => gk (.int 0) m.1 j f
def rdO (m : gM) (j f : Nat) (ty : FieldType) : Bool := match ty with
  | .long => true
  | .object _ => true
  | .array _ => true
  | .float => false
  | .double => false
  | _ => sy (gk (.int 0) m.1 j f)
theorem rdO_spec {G : aG} {xs : Nat → Int32} (hx : G.2.2.2.2 = xs) {m : gM} {j f : Nat} {ty : FieldType} (h : rdO m j f ty = true) : cv G (ag (den xs m) j f ty) = cv G (gv m j f ty) := by
  cases ty <;> first
    | (simp [rdO] at h; done)
    | rfl
    | exact sy_den hx h
/-- may this value stand in a slot of this type as it is -/
def vok (ty : FieldType) (v : Value) : Bool := match ty, v with
  | .int, .int _ => true
  | .boolean, .int x => decide (x = 0) || decide (x = 1)
  | .long, .long _ => true
  | .object _, .ref _ => true
  | .array _, .ref _ => true
  | .int, .float u => okU u
  | _, _ => false
theorem vok_gO {ty : FieldType} {v : Value} (h : vok ty v = true) : gO v = true := by
  cases ty <;> cases v <;> first
    | rfl
    | exact h
    | (simp [vok] at h; done)
theorem vok_spec (xs : Nat → Int32) {ty : FieldType} {v : Value} (h : vok ty v = true) : akind ty (un xs v) = true ∧ (∀ G, narrow ty (cv G (un xs v)) = cv G (un xs v)) ∧ ∀ G, fits ty (cv G (un xs v)) = true := by
  cases ty <;> cases v <;> first
    | (simp [vok] at h; done)
    | exact ⟨rfl, fun _ => rfl, fun _ => rfl⟩
    | (simp only [vok, Bool.or_eq_true, decide_eq_true_eq] at h
       rcases h with rfl | rfl
       · exact ⟨rfl, fun _ => by show narrow .boolean (.int 0) = .int 0; decide +kernel, fun _ => by show fits .boolean (.int 0) = true; decide +kernel⟩
       · exact ⟨rfl, fun _ => by show narrow .boolean (.int 1) = .int 1; decide +kernel, fun _ => by show fits .boolean (.int 1) = true; decide +kernel⟩)
    | (simp only [un, if_neg (okU_ne h)]
       exact ⟨rfl, fun _ => rfl, fun _ => rfl⟩)
theorem sy_un (xs : Nat → Int32) {v : Value} (h : sy v = true) : ∃ z : Int32, (∀ G : aG, G.2.2.2.2 = xs → cv G v = cv G (.int z)) ∧ un xs v = .int z ∧ gO v = true := by
  cases v <;> first
    | (simp [sy] at h; done)
    | exact ⟨_, fun _ _ => rfl, rfl, rfl⟩
    | exact ⟨_, fun G hx => cv_f hx h, by simp only [un, if_neg (okU_ne h)], h⟩
/-- a byte, a boolean as a row holds it -/
def nrB (v : Value) : Value := match v with
  | .int y => .int (vp_nar .byte y)
  | v => v
def nrO (v : Value) : Bool := match v with
  | .int _ => true
  | .float u => okU u && Nat.beq (u.toNat / 256) 2
  | _ => false
def nrZ (v : Value) : Value := match v with
  | .int y => .int (vp_nar .boolean y)
  | v => v
def nrY (v : Value) : Bool := match v with
  | .int _ => true
  | _ => false
theorem nrB_un (xs : Nat → Int32) {v : Value} (h : nrO v = true) : ∃ z : Int32, (∀ G : aG, G.2.2.2.2 = xs → cv G v = cv G (.int z)) ∧ un xs (nrB v) = .int (vp_nar .byte z) ∧ gO (nrB v) = true := by
  cases v <;> first
    | (simp [nrO] at h; done)
    | exact ⟨_, fun _ _ => rfl, rfl, rfl⟩
    | (simp only [nrO, Bool.and_eq_true] at h
       refine ⟨_, fun G hx => cv_f hx h.1, ?_, h.1⟩
       simp only [nrB, un, if_neg (okU_ne h.1)]
       have e := Nat.eq_of_beq_eq_true h.2
       simp only [evE, e]
       rw [pk_vb])
theorem nrZ_un (xs : Nat → Int32) {v : Value} (h : nrY v = true) : ∃ z : Int32, (∀ G : aG, G.2.2.2.2 = xs → cv G v = cv G (.int z)) ∧ un xs (nrZ v) = .int (vp_nar .boolean z) ∧ gO (nrZ v) = true := by
  cases v <;> first
    | (simp [nrY] at h; done)
    | exact ⟨_, fun _ _ => rfl, rfl, rfl⟩
/-- facts about unknown ints -/
def lkC : List (UInt32 × _root_.Jvm.ClassFile.Cond × Int32 × Bool) → UInt32 → _root_.Jvm.ClassFile.Cond → Int32 → Option Bool
  | [], _, _, _ => none
  | q :: r, u, c, y => if q.1 = u ∧ q.2.1 = c ∧ q.2.2.1 = y then some q.2.2.2 else lkC r u c y
theorem lkC_mem : ∀ {t : List (UInt32 × _root_.Jvm.ClassFile.Cond × Int32 × Bool)} {u : UInt32} {c : _root_.Jvm.ClassFile.Cond} {y : Int32} {b : Bool}, lkC t u c y = some b → (u, c, y, b) ∈ t
  | [], _, _, _, _, h => by cases h
  | q :: r, u, c, y, b, h => by
    unfold lkC at h
    split at h
    · next e =>
        obtain ⟨e1, e2, e3⟩ := e
        cases h
        rw [← e1, ← e2, ← e3]
        exact List.mem_cons_self
    · exact List.mem_cons_of_mem _ (lkC_mem h)
def lkB : List (UInt32 × Int32 × Int32) → UInt32 → Int32 → Option Int32
  | [], _, _ => none
  | q :: r, u, y => if q.1 = u ∧ q.2.1 = y then some q.2.2 else lkB r u y
theorem lkB_mem : ∀ {t : List (UInt32 × Int32 × Int32)} {u : UInt32} {y z : Int32}, lkB t u y = some z → (u, y, z) ∈ t
  | [], _, _, _, h => by cases h
  | q :: r, u, y, z, h => by
    unfold lkB at h
    split at h
    · next e =>
        obtain ⟨e1, e2⟩ := e
        cases h
        rw [← e1, ← e2]
        exact List.mem_cons_self
    · exact List.mem_cons_of_mem _ (lkB_mem h)
theorem u_of {n : Nat} (h : n < 4294967296) : (UInt32.ofNat n).toNat = n := by
  rw [UInt32.toNat_ofNat']
  exact Nat.mod_eq_of_lt h
theorem ev0 {G : aG} {xs : Nat → Int32} (hx : G.2.2.2.2 = xs) {j : Nat} (h : Nat.blt j 8 = true) : cv G (.float (UInt32.ofNat j)) = cv G (.int (xs j)) := by
  have h := Nat.blt_eq.mp h
  have e : (UInt32.ofNat j).toNat = j := u_of (by omega)
  rw [cv_f hx (show okU (UInt32.ofNat j) = true by rw [okU, e]; exact Nat.blt_eq.mpr (by omega))]
  show Value.int (evE xs (UInt32.ofNat j)) = .int (xs j)
  unfold evE
  rw [e, show j / 256 = 0 by omega, show j % 8 = j by omega]
theorem okU0 {u : UInt32} (h : Nat.blt u.toNat 8 = true) : okU u = true := by
  have h := Nat.blt_eq.mp h
  exact Nat.blt_eq.mpr (by omega)
theorem okU1 {u : UInt32} {y : Int32} (h : Nat.blt u.toNat 8 = true) (h2 : Nat.blt y.toNatClampNeg 32 = true) : okU (UInt32.ofNat (256 + y.toNatClampNeg * 8 + u.toNat)) = true := by
  have h := Nat.blt_eq.mp h
  have h2 := Nat.blt_eq.mp h2
  rw [okU, u_of (by omega)]
  exact Nat.blt_eq.mpr (by omega)
theorem ev1 (xs : Nat → Int32) {u : UInt32} {y : Int32} (h : Nat.blt u.toNat 8 = true) (h2 : Nat.blt y.toNatClampNeg 32 = true) (h3 : y = Int32.ofNat y.toNatClampNeg) : evE xs (UInt32.ofNat (256 + y.toNatClampNeg * 8 + u.toNat)) = evE xs u >>> (y &&& 31) := by
  have h := Nat.blt_eq.mp h
  have h2 := Nat.blt_eq.mp h2
  have e : (UInt32.ofNat (256 + y.toNatClampNeg * 8 + u.toNat)).toNat = 256 + y.toNatClampNeg * 8 + u.toNat := u_of (by omega)
  have e2 : evE xs u = xs u.toNat := by
    unfold evE
    rw [show u.toNat / 256 = 0 by omega, show u.toNat % 8 = u.toNat by omega]
  rw [e2]
  unfold evE
  rw [e, show (256 + y.toNatClampNeg * 8 + u.toNat) / 256 = 1 by omega, show (256 + y.toNatClampNeg * 8 + u.toNat) % 8 = u.toNat by omega, show (256 + y.toNatClampNeg * 8 + u.toNat) / 8 % 32 = y.toNatClampNeg by omega, ← h3]
theorem u_add {u : UInt32} {n : Nat} (h : okU u = true) (hn : n < 1024) : (u + UInt32.ofNat n).toNat = u.toNat + n := by
  have h := okU_lt h
  rw [UInt32.toNat_add, u_of (by omega)]
  exact Nat.mod_eq_of_lt (by omega)
theorem okU2 {u : UInt32} (h : okU u = true) (h2 : Nat.beq (u.toNat / 256) 1 = true) : okU (u + 256) = true := by
  have h3 := Nat.eq_of_beq_eq_true h2
  have e : (u + 256).toNat = u.toNat + 256 := u_add (n := 256) h (by omega)
  rw [okU, e]
  exact Nat.blt_eq.mpr (by omega)
theorem okU3 {u : UInt32} (h : okU u = true) (h2 : Nat.beq (u.toNat / 256) 1 = true) : okU (u + 512) = true := by
  have h3 := Nat.eq_of_beq_eq_true h2
  have e : (u + 512).toNat = u.toNat + 512 := u_add (n := 512) h (by omega)
  rw [okU, e]
  exact Nat.blt_eq.mpr (by omega)
theorem ev2 (xs : Nat → Int32) {u : UInt32} (h : okU u = true) (h2 : Nat.beq (u.toNat / 256) 1 = true) : evE xs (u + 256) = (evE xs u).toInt8.toInt32 := by
  have h3 := Nat.eq_of_beq_eq_true h2
  have e : (u + 256).toNat = u.toNat + 256 := u_add (n := 256) h (by omega)
  unfold evE
  rw [e, h3, show (u.toNat + 256) / 256 = 2 by omega, show (u.toNat + 256) % 8 = u.toNat % 8 by omega, show (u.toNat + 256) / 8 % 32 = u.toNat / 8 % 32 by omega]
theorem ev3 (xs : Nat → Int32) {u : UInt32} (h : okU u = true) (h2 : Nat.beq (u.toNat / 256) 1 = true) : evE xs (u + 512) = evE xs u &&& 255 := by
  have h3 := Nat.eq_of_beq_eq_true h2
  have e : (u + 512).toNat = u.toNat + 512 := u_add (n := 512) h (by omega)
  unfold evE
  rw [e, h3, show (u.toNat + 512) / 256 = 3 by omega, show (u.toNat + 512) % 8 = u.toNat % 8 by omega, show (u.toNat + 512) / 8 % 32 = u.toNat / 8 % 32 by omega]
theorem and_m1 (x : Int32) : x &&& (-1) = x := by
  apply Int32.toBitVec_inj.mp
  rw [Int32.toBitVec_and]
  show x.toBitVec &&& (-1 : Int32).toBitVec = x.toBitVec
  rw [show (-1 : Int32).toBitVec = BitVec.allOnes 32 by decide +kernel, BitVec.and_allOnes]
section FI
variable {l : aL} {mi : aI} {P : aP} {kc ks pc : Nat} {lv : List (Nat × Value)} {st : List Value} {sh : aH} {M : aM} {sc : aSc} {xs : Nat → Int32} {u : UInt32}
theorem AW.fI (hG : ∀ G, l.2 G → scOk sc xs G) (h : okU u = true) (k : AW l mi P kc ks pc lv (.int (evE xs u) :: st) sh M) : AW l mi P kc ks pc lv (.float u :: st) sh M := AW.cast (fun G hΓ => ⟨rfl, map_top (cv_f (hG G hΓ).1 h)⟩) k
theorem AW.fI2 {a : Value} (hG : ∀ G, l.2 G → scOk sc xs G) (h : okU u = true) (k : AW l mi P kc ks pc lv (a :: .int (evE xs u) :: st) sh M) : AW l mi P kc ks pc lv (a :: .float u :: st) sh M := AW.cast (fun G hΓ => ⟨rfl, map_2 (cv_f (hG G hΓ).1 h)⟩) k
theorem AW.If (hG : ∀ G, l.2 G → scOk sc xs G) (h : okU u = true) (k : AW l mi P kc ks pc lv (.float u :: st) sh M) : AW l mi P kc ks pc lv (.int (evE xs u) :: st) sh M := AW.cast (fun G hΓ => ⟨rfl, map_top (cv_f (hG G hΓ).1 h).symm⟩) k
theorem AW.iloadV_n {n : Fin 4} {v : Value} (hd : decode (iC mi) pc = .ok (.iload_n n, 1)) (hv : lk lv n = some v) (hi : ∀ G, ∃ x : Int32, cv G v = .int x) (k : AW l mi P kc ks (pc + 1) lv (v :: st) sh M) : AW l mi P kc ks pc lv st sh M := by
  intro p e s m args below meth c G H locs cells slots ls KC KS C E w hS hl hc hs
  obtain ⟨x, hx⟩ := hi G
  have h1 := k p e s m args below meth c G H locs cells slots ls KC KS C E w hS hl hc hs
  have h2 := lk_at hl hv
  rw [hx] at h2
  rw [List.map_cons, hx] at h1
  exact lv_iload_n C.1 C.2.1 hd rfl h2 h1
theorem AW.iloadV {n : Nat} {v : Value} (hd : decode (iC mi) pc = .ok (.iload n, 2)) (hv : lk lv n = some v) (hi : ∀ G, ∃ x : Int32, cv G v = .int x) (k : AW l mi P kc ks (pc + 2) lv (v :: st) sh M) : AW l mi P kc ks pc lv st sh M := by
  intro p e s m args below meth c G H locs cells slots ls KC KS C E w hS hl hc hs
  obtain ⟨x, hx⟩ := hi G
  have h1 := k p e s m args below meth c G H locs cells slots ls KC KS C E w hS hl hc hs
  have h2 := lk_at hl hv
  rw [hx] at h2
  rw [List.map_cons, hx] at h1
  exact lv_iload C.1 C.2.1 hd h2 h1
theorem AW.istoreV_n {n : Fin 4} {v : Value} (hd : decode (iC mi) pc = .ok (.istore_n n, 1)) (hi : ∀ G, ∃ x : Int32, cv G v = .int x) (hn : (n : Nat) < iL mi) (k : AW l mi P kc ks (pc + 1) (s1 lv n v) st sh M) : AW l mi P kc ks pc lv (v :: st) sh M := by
  intro p e s m args below meth c G H locs cells slots ls KC KS C E w hS hl hc hs
  obtain ⟨x, hx⟩ := hi G
  have e9 := lcv_s1 G lv n v
  rw [hx] at e9
  rw [List.map_cons, hx]
  exact lv_istore_n C.1 C.2.1 hd rfl hl hn e9 (fun ls hl => k p e s m args below meth c G H locs cells slots ls KC KS C E w hS hl hc hs)
theorem AW.istoreV {n : Nat} {v : Value} (hd : decode (iC mi) pc = .ok (.istore n, 2)) (hi : ∀ G, ∃ x : Int32, cv G v = .int x) (hn : (n : Nat) < iL mi) (k : AW l mi P kc ks (pc + 2) (s1 lv n v) st sh M) : AW l mi P kc ks pc lv (v :: st) sh M := by
  intro p e s m args below meth c G H locs cells slots ls KC KS C E w hS hl hc hs
  obtain ⟨x, hx⟩ := hi G
  have e9 := lcv_s1 G lv n v
  rw [hx] at e9
  rw [List.map_cons, hx]
  exact lv_istore C.1 C.2.1 hd hl hn e9 (fun ls hl => k p e s m args below meth c G H locs cells slots ls KC KS C E w hS hl hc hs)
end FI
/-- a program: methods, their instructions, the class that a method stands in, fields, callees (number, kind, parameters), classes to make, constants, a callee's own class, constructors, throws, handlers that answer a number -/
abbrev aPg : Type := (Nat → aI) × (Nat → Nat → Option (Instr × Nat)) × (Nat → Nat) × (Nat → Nat → Option (Nat × Nat × Nat)) × (Nat → Nat → Option (Nat × Nat × Nat)) × (Nat → Nat → Option Nat) × (Nat → Nat → Option Int32) × (Nat → Nat → Option Int64) × (Nat → Nat) × (Nat → Bool) × (Nat → Nat → Option String) × (Nat → Nat → String → Option Int)
abbrev pI (g : aPg) : Nat → aI := g.1
abbrev pT (g : aPg) : Nat → Nat → Option (Instr × Nat) := g.2.1
abbrev pO (g : aPg) : Nat → Nat := g.2.2.1
abbrev pF (g : aPg) : Nat → Nat → Option (Nat × Nat × Nat) := g.2.2.2.1
abbrev pM (g : aPg) : Nat → Nat → Option (Nat × Nat × Nat) := g.2.2.2.2.1
abbrev pC (g : aPg) : Nat → Nat → Option Nat := g.2.2.2.2.2.1
abbrev pK (g : aPg) : Nat → Nat → Option Int32 := g.2.2.2.2.2.2.1
abbrev pJ (g : aPg) : Nat → Nat → Option Int64 := g.2.2.2.2.2.2.2.1
abbrev pN (g : aPg) : Nat → Nat := g.2.2.2.2.2.2.2.2.1
abbrev pX (g : aPg) : Nat → Bool := g.2.2.2.2.2.2.2.2.2.1
abbrev pE (g : aPg) : Nat → Nat → Option String := g.2.2.2.2.2.2.2.2.2.2.1
abbrev pH (g : aPg) : Nat → Nat → String → Option Int := g.2.2.2.2.2.2.2.2.2.2.2
def okF (mi : aI) (n ci k f : Nat) : Prop := ∃ q : vw_C, vwCl[ci]? = some q ∧ clOk ci q ∧ k < q.2.2 ∧ Cond.fieldLink (iO mi) n (q.2.1 k).1 (q.2.1 k).2.1 (q.2.1 k).2.2.1 ∈ GW ∧ (f = 0 → (q.2.1 k).2.2.2 = false) ∧ (f = 1 → (q.2.1 k).1 = iO mi)
def okC (mi : aI) (n ci : Nat) : Prop := ∃ q : vw_C, vwCl[ci]? = some q ∧ clOk ci q ∧ Cond.classLink (iO mi) n q.1 ∈ GW ∧ Cond.instantiable q.1 q.2.2 ∈ GW ∧ Cond.initialized q.1 ∈ GW
def okN (mj : aI) (np : Nat) : Prop := (iY mj).cls ≠ "java/lang/invoke/MethodHandle" ∧ (iY mj).cls ≠ "java/lang/invoke/VarHandle" ∧ (parseMethodDescriptor (iY mj).desc).map (fun d => d.parameters.length) = some np
def okI (mi : aI) : Prop := plainName (iY mi).cls = true ∧ (iY mi).cls = iO mi ∧ iT mi = []
/-- kinds of calls: 0 an instance's, 1 static, 2 a constructor, 3 a nest mate's constructor, 4 Object's constructor, 5 System.arraycopy, 6 static with handlers -/
def okM (mi mj : aI) (n kd np cn : Nat) : Prop := (kd = 0 → cV mi mj n ∧ okN mj np ∧ (∃ q : vw_C, vwCl[cn]? = some q ∧ q.1 = (iY mj).cls) ∧ okI mj) ∧ (kd = 1 → cS mi mj n ∧ okN mj np ∧ okI mj) ∧ (kd = 2 → cI mi mj n ∧ okN mj np ∧ okI mj) ∧ (kd = 3 → cN mi mj n ∧ okN mj np ∧ okI mj) ∧
  (kd = 4 → Cond.methodLink (iO mi) n Lib.objectInit ∈ GW ∧ Cond.instanceMethod Lib.objectInit ∈ GW ∧ Cond.code Lib.objectInit ⟨#[0xb1]⟩ 1 none ∈ GW) ∧ (kd = 5 → cY mi n) ∧ (kd = 6 → ∃ hh, cH mi mj hh n ∧ okN mj np ∧ plainName (iY mj).cls = true ∧ (iY mj).cls = iO mj ∧ iT mj = tableOf hh)
def pgOk (g : aPg) : Prop :=
  (∀ id pc i n, pT g id pc = some (i, n) → decode (iC (pI g id)) pc = .ok (i, n)) ∧
  (∀ id n ci k f, pF g (pO g id) n = some (ci, k, f) → okF (pI g id) n ci k f) ∧
  (∀ id n mj kd np, pM g (pO g id) n = some (mj, kd, np) → okM (pI g id) (pI g mj) n kd np (pN g mj)) ∧
  (∀ id n ci, pC g (pO g id) n = some ci → okC (pI g id) n ci) ∧
  (∀ id n v, pK g (pO g id) n = some v → Cond.constant (iO (pI g id)) n v ∈ GW) ∧
  (∀ id n v, pJ g (pO g id) n = some v → Cond.constantLong (iO (pI g id)) n v ∈ GW) ∧
  (∀ id, pX g id = true → (iY (pI g id)).name = "<init>") ∧
  (∀ id pc X, pE g id pc = some X → ∀ (l : aL) (P : aP) (kc ks : Nat) (lv : List (Nat × Value)) (sh : aH) (M : aM), P (.inr X) (false, sh.2) M → AW l (pI g id) P (kc + 1) (ks + 6) pc lv [] sh M) ∧
  (∀ id pc X k, pH g id pc X = some k → ∀ (l : aL) (P : aP) (kc ks : Nat) (lv : List (Nat × Value)) (sh : aH) (M : aM), P (.inl (some (.int (Int32.ofInt k)))) sh M → AX l (pI g id) P kc ks pc lv sh M X)
/-- where the machine stands: place, locals, stack, shapes, memory; cells and slots made on the way -/
abbrev aK : Type := Nat × List (Nat × Value) × List Value × aH × gM × Nat × Nat
def tgt (pc : Nat) (off : Int) : Option Nat := match (pc : Int) + off with
  | .ofNat t => some t
  | .negSucc _ => none
theorem tgt_spec {pc t : Nat} {off : Int} (h : tgt pc off = some t) : (pc : Int) + off = (t : Int) := by
  unfold tgt at h
  split at h
  · next h1 => cases h; exact h1
  · cases h
def inB (j : Int32) (n : Nat) : Bool := !decide (j < 0) && Nat.blt j.toNatClampNeg n
theorem inB_spec {j : Int32} {n : Nat} (h : inB j n = true) : vp_in j n := by
  simp only [inB, Bool.and_eq_true, Bool.not_eq_true', decide_eq_false_iff_not] at h
  intro h2
  rcases h2 with h2 | h2
  · exact h.1 h2
  · have := Nat.blt_eq.mp h.2
    omega
