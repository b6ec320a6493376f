/-! A machine over written memory (lists of what was written): runs that are closed are decided by computing. -/
abbrev gM : Type := List (Nat × Nat × Value) × List (Nat × Nat × Int64) × List (Nat × Nat × Nat)
def gk {α : Type} (z : α) : List (Nat × Nat × α) → Nat → Nat → α
  | [], _, _ => z
  | q :: r, i, k => match Nat.beq q.1 i && Nat.beq q.2.1 k with
    | true => q.2.2
    | false => gk z r i k
def gp {α : Type} (z : α → Bool) (g : List (Nat × Nat × α)) (i k : Nat) (x : α) : List (Nat × Nat × α) := match z x with
  | true => g.filter (fun q => !(Nat.beq q.1 i && Nat.beq q.2.1 k))
  | false => (i, k, x) :: g.filter (fun q => !(Nat.beq q.1 i && Nat.beq q.2.1 k))
theorem gk_filter {α : Type} (z : α) (i k : Nat) : ∀ (g : List (Nat × Nat × α)) (a c : Nat), gk z (g.filter (fun q => !(Nat.beq q.1 i && Nat.beq q.2.1 k))) a c = if a = i ∧ c = k then z else gk z g a c
  | [], a, c => by simp [gk]
  | q :: r, a, c => by
    have ih := gk_filter z i k r a c
    by_cases h : (Nat.beq q.1 i && Nat.beq q.2.1 k) = true
    · rw [List.filter_cons_of_neg (by simp [h]), ih]
      by_cases h2 : a = i ∧ c = k
      · rw [if_pos h2, if_pos h2]
      · rw [if_neg h2, if_neg h2]
        simp only [Bool.and_eq_true, Nat.beq_eq] at h
        have h3 : (Nat.beq q.1 a && Nat.beq q.2.1 c) = false := by
          rw [Bool.eq_false_iff]
          intro h4
          simp only [Bool.and_eq_true, Nat.beq_eq] at h4
          exact h2 ⟨h4.1.symm.trans h.1, h4.2.symm.trans h.2⟩
        conv => rhs; unfold gk
        rw [h3]
    · rw [List.filter_cons_of_pos (by rw [Bool.not_eq_true']; exact Bool.eq_false_iff.mpr h)]
      by_cases h3 : (Nat.beq q.1 a && Nat.beq q.2.1 c) = true
      · conv => lhs; unfold gk
        rw [h3]
        have h2 : ¬ (a = i ∧ c = k) := by
          intro h4
          obtain ⟨rfl, rfl⟩ := h4
          exact h h3
        rw [if_neg h2]
        conv => rhs; unfold gk
        rw [h3]
      · have h3 : (Nat.beq q.1 a && Nat.beq q.2.1 c) = false := Bool.eq_false_iff.mpr h3
        conv => lhs; unfold gk
        rw [h3]
        show gk z (r.filter _) a c = _
        rw [ih]
        conv => rhs; unfold gk
        rw [h3]
theorem gk_gp {α : Type} {z : α} {b : α → Bool} {g : List (Nat × Nat × α)} {i k : Nat} {x : α} (hb : b x = true → x = z) : gk z (gp b g i k x) = upd2 (gk z g) i k x := by
  funext a c
  unfold gp
  split
  · next h =>
    rw [gk_filter, hb h]
    simp only [upd2]
    by_cases h1 : a = i <;> by_cases h2 : c = k <;> simp [h1, h2]
  · next h =>
    conv => lhs; unfold gk
    split
    · next h3 =>
      simp only [Bool.and_eq_true, Nat.beq_eq] at h3
      simp [upd2, h3.1.symm, h3.2.symm]
    · next h3 =>
      rw [gk_filter]
      have h4 : ¬ (a = i ∧ c = k) := by
        intro h5
        obtain ⟨rfl, rfl⟩ := h5
        simp at h3
      simp only [upd2]
      by_cases h1 : a = i
      · have h2 : ¬ c = k := fun h => h4 ⟨h1, h⟩
        simp [h1, h2]
      · simp [h1]
/-- codes of unknown ints in use -/
def okU (u : UInt32) : Bool := Nat.blt u.toNat 1024
theorem okU_lt {u : UInt32} (h : okU u = true) : u.toNat < 1024 := Nat.blt_eq.mp h
theorem okU_ne {u : UInt32} (h : okU u = true) : u ≠ 4294967295 := by
  intro e
  subst e
  exact absurd h (by decide)
/-- an int, known or not -/
def sy (v : Value) : Bool := match v with
  | .int _ => true
  | .float u => okU u
  | _ => false
def iv (xs : Nat → Int32) (v : Value) : Int32 := match v with
  | .int x => x
  | .float u => evE xs u
  | _ => 0
def un (xs : Nat → Int32) (v : Value) : Value := match v with
  | .float u => if u = 4294967295 then .float u else .int (evE xs u)
  | v => v
theorem cv_f {G : aG} {xs : Nat → Int32} (hx : G.2.2.2.2 = xs) {u : UInt32} (h : okU u = true) : cv G (.float u) = .int (evE xs u) := by
  show cvF G.2.2.2.2 u = _
  rw [hx, cvF, if_neg (okU_ne h)]
theorem un_cv {G : aG} {xs : Nat → Int32} (hx : G.2.2.2.2 = xs) (v : Value) : cv G v = cv G (un xs v) := by
  cases v <;> try rfl
  next u =>
    simp only [un]
    split
    · rfl
    · next h =>
        show cvF G.2.2.2.2 u = _
        rw [hx, cvF, if_neg h]
        rfl
theorem sy_int {v : Value} (h : sy v = true) (G : aG) : ∃ x : Int32, cv G v = .int x := by
  cases v <;> first
    | (simp [sy] at h; done)
    | exact ⟨_, rfl⟩
    | exact ⟨_, cv_f rfl h⟩
theorem sy_den {G : aG} {xs : Nat → Int32} (hx : G.2.2.2.2 = xs) {v : Value} (h : sy v = true) : cv G (.int (iv xs v)) = cv G v := by
  cases v <;> first
    | (simp [sy] at h; done)
    | rfl
    | exact (cv_f hx h).symm
theorem map_top {G : aG} {v w : Value} {st : List Value} (h : cv G v = cv G w) : (v :: st).map (cv G) = (w :: st).map (cv G) := by rw [List.map_cons, List.map_cons, h]
theorem map_2 {G : aG} {a v w : Value} {st : List Value} (h : cv G v = cv G w) : (a :: v :: st).map (cv G) = (a :: w :: st).map (cv G) := by rw [List.map_cons, List.map_cons, List.map_cons, List.map_cons, h]
def den (xs : Nat → Int32) (g : gM) : aM := (fun i k => iv xs (gk (.int 0) g.1 i k), gk 0 g.2.1, gk 0 g.2.2)
def gO (v : Value) : Bool := match v with
  | .float u => okU u
  | _ => true
def gset (g : gM) (i k : Nat) (v : Value) : gM := match v with
  | .int x => (gp (fun y => decide (y = .int 0)) g.1 i k (.int x), g.2.1, g.2.2)
  | .float u => (gp (fun y => decide (y = .int 0)) g.1 i k (.float u), g.2.1, g.2.2)
  | .long x => (g.1, gp (fun y => decide (y = 0)) g.2.1 i k x, g.2.2)
  | .ref j => (g.1, g.2.1, gp (fun y => Nat.beq y 0) g.2.2 i k (j + 1))
  | .null => (g.1, g.2.1, gp (fun y => Nat.beq y 0) g.2.2 i k 0)
  | _ => g
theorem iv_upd (xs : Nat → Int32) (f : Nat → Nat → Value) (i k : Nat) (v : Value) : (fun a c => iv xs (upd2 f i k v a c)) = upd2 (fun a c => iv xs (f a c)) i k (iv xs v) := by
  funext a c
  simp only [upd2]
  by_cases h1 : a = i
  · by_cases h2 : c = k
    · simp [h1, h2]
    · simp [h1, h2]
  · simp [h1]
theorem den_gset {xs : Nat → Int32} {g : gM} {i k : Nat} {v : Value} (h : gO v = true) : den xs (gset g i k v) = aset (den xs g) i k (un xs v) := by
  cases v <;> simp only [gset, den] <;> try rfl
  · rw [gk_gp (fun h => by simpa using h), iv_upd]
    rfl
  · rw [gk_gp (fun h => by simpa using h)]
    rfl
  · rw [gk_gp (fun h => by simpa using h), iv_upd]
    simp only [un, if_neg (okU_ne h)]
    rfl
  · rw [gk_gp (fun h => by simpa using h)]
    rfl
  · rw [gk_gp (fun h => by simpa using h)]
    rfl
/-- a slot's value as it was written -/
def gv (m : gM) (j f : Nat) (ty : FieldType) : Value := match ty with
  | .long => .long (gk 0 m.2.1 j f)
  | .object _ => (match gk 0 m.2.2 j f with | 0 => .null | i + 1 => .ref i)
  | .array _ => (match gk 0 m.2.2 j f with | 0 => .null | i + 1 => .ref i)
  | _ => gk (.int 0) m.1 j f
def rdO (m : gM) (j f : Nat) (ty : FieldType) : Bool := match ty with
  | .long => true
  | .object _ => true
  | .array _ => true
  | .float => false
  | .double => false
  | _ => sy (gk (.int 0) m.1 j f)
theorem rdO_spec {G : aG} {xs : Nat → Int32} (hx : G.2.2.2.2 = xs) {m : gM} {j f : Nat} {ty : FieldType} (h : rdO m j f ty = true) : cv G (ag (den xs m) j f ty) = cv G (gv m j f ty) := by
  cases ty <;> first
    | (simp [rdO] at h; done)
    | rfl
    | exact sy_den hx h
/-- may this value stand in a slot of this type as it is -/
def vok (ty : FieldType) (v : Value) : Bool := match ty, v with
  | .int, .int _ => true
  | .boolean, .int x => decide (x = 0) || decide (x = 1)
  | .long, .long _ => true
  | .object _, .ref _ => true
  | .array _, .ref _ => true
  | .int, .float u => okU u
  | _, _ => false
theorem vok_gO {ty : FieldType} {v : Value} (h : vok ty v = true) : gO v = true := by
  cases ty <;> cases v <;> first
    | rfl
    | exact h
    | (simp [vok] at h; done)
theorem vok_spec (xs : Nat → Int32) {ty : FieldType} {v : Value} (h : vok ty v = true) : akind ty (un xs v) = true ∧ (∀ G, narrow ty (cv G (un xs v)) = cv G (un xs v)) ∧ ∀ G, fits ty (cv G (un xs v)) = true := by
  cases ty <;> cases v <;> first
    | (simp [vok] at h; done)
    | exact ⟨rfl, fun _ => rfl, fun _ => rfl⟩
    | (simp only [vok, Bool.or_eq_true, decide_eq_true_eq] at h
       rcases h with rfl | rfl
       · exact ⟨rfl, fun _ => by show narrow .boolean (.int 0) = .int 0; decide +kernel, fun _ => by show fits .boolean (.int 0) = true; decide +kernel⟩
       · exact ⟨rfl, fun _ => by show narrow .boolean (.int 1) = .int 1; decide +kernel, fun _ => by show fits .boolean (.int 1) = true; decide +kernel⟩)
    | (simp only [un, if_neg (okU_ne h)]
       exact ⟨rfl, fun _ => rfl, fun _ => rfl⟩)
theorem sy_un (xs : Nat → Int32) {v : Value} (h : sy v = true) : ∃ z : Int32, (∀ G : aG, G.2.2.2.2 = xs → cv G v = cv G (.int z)) ∧ un xs v = .int z ∧ gO v = true := by
  cases v <;> first
    | (simp [sy] at h; done)
    | exact ⟨_, fun _ _ => rfl, rfl, rfl⟩
    | exact ⟨_, fun G hx => cv_f hx h, by simp only [un, if_neg (okU_ne h)], h⟩
/-- a byte, a boolean as a row holds it -/
def nrB (v : Value) : Value := match v with
  | .int y => .int (vp_nar .byte y)
  | v => v
def nrO (v : Value) : Bool := match v with
  | .int _ => true
  | .float u => okU u && Nat.beq (u.toNat / 256) 2
  | _ => false
def nrZ (v : Value) : Value := match v with
  | .int y => .int (vp_nar .boolean y)
  | v => v
def nrY (v : Value) : Bool := match v with
  | .int _ => true
  | _ => false
theorem nrB_un (xs : Nat → Int32) {v : Value} (h : nrO v = true) : ∃ z : Int32, (∀ G : aG, G.2.2.2.2 = xs → cv G v = cv G (.int z)) ∧ un xs (nrB v) = .int (vp_nar .byte z) ∧ gO (nrB v) = true := by
  cases v <;> first
    | (simp [nrO] at h; done)
    | exact ⟨_, fun _ _ => rfl, rfl, rfl⟩
    | (simp only [nrO, Bool.and_eq_true] at h
       refine ⟨_, fun G hx => cv_f hx h.1, ?_, h.1⟩
       simp only [nrB, un, if_neg (okU_ne h.1)]
       have e := Nat.eq_of_beq_eq_true h.2
       simp only [evE, e]
       rw [pk_vb])
theorem nrZ_un (xs : Nat → Int32) {v : Value} (h : nrY v = true) : ∃ z : Int32, (∀ G : aG, G.2.2.2.2 = xs → cv G v = cv G (.int z)) ∧ un xs (nrZ v) = .int (vp_nar .boolean z) ∧ gO (nrZ v) = true := by
  cases v <;> first
    | (simp [nrY] at h; done)
    | exact ⟨_, fun _ _ => rfl, rfl, rfl⟩
/-- facts about unknown ints -/
def lkC : List (UInt32 × _root_.Jvm.ClassFile.Cond × Int32 × Bool) → UInt32 → _root_.Jvm.ClassFile.Cond → Int32 → Option Bool
  | [], _, _, _ => none
  | q :: r, u, c, y => if q.1 = u ∧ q.2.1 = c ∧ q.2.2.1 = y then some q.2.2.2 else lkC r u c y
theorem lkC_mem : ∀ {t : List (UInt32 × _root_.Jvm.ClassFile.Cond × Int32 × Bool)} {u : UInt32} {c : _root_.Jvm.ClassFile.Cond} {y : Int32} {b : Bool}, lkC t u c y = some b → (u, c, y, b) ∈ t
  | [], _, _, _, _, h => by cases h
  | q :: r, u, c, y, b, h => by
    unfold lkC at h
    split at h
    · next e =>
        obtain ⟨e1, e2, e3⟩ := e
        cases h
        rw [← e1, ← e2, ← e3]
        exact List.mem_cons_self
    · exact List.mem_cons_of_mem _ (lkC_mem h)
def lkB : List (UInt32 × Int32 × Int32) → UInt32 → Int32 → Option Int32
  | [], _, _ => none
  | q :: r, u, y => if q.1 = u ∧ q.2.1 = y then some q.2.2 else lkB r u y
theorem lkB_mem : ∀ {t : List (UInt32 × Int32 × Int32)} {u : UInt32} {y z : Int32}, lkB t u y = some z → (u, y, z) ∈ t
  | [], _, _, _, h => by cases h
  | q :: r, u, y, z, h => by
    unfold lkB at h
    split at h
    · next e =>
        obtain ⟨e1, e2⟩ := e
        cases h
        rw [← e1, ← e2]
        exact List.mem_cons_self
    · exact List.mem_cons_of_mem _ (lkB_mem h)
theorem u_of {n : Nat} (h : n < 4294967296) : (UInt32.ofNat n).toNat = n := by
  rw [UInt32.toNat_ofNat']
  exact Nat.mod_eq_of_lt h
theorem ev0 {G : aG} {xs : Nat → Int32} (hx : G.2.2.2.2 = xs) {j : Nat} (h : Nat.blt j 8 = true) : cv G (.float (UInt32.ofNat j)) = cv G (.int (xs j)) := by
  have h := Nat.blt_eq.mp h
  have e : (UInt32.ofNat j).toNat = j := u_of (by omega)
  rw [cv_f hx (show okU (UInt32.ofNat j) = true by rw [okU, e]; exact Nat.blt_eq.mpr (by omega))]
  show Value.int (evE xs (UInt32.ofNat j)) = .int (xs j)
  unfold evE
  simp only [e, show j / 256 = 0 by omega, show j % 8 = j by omega]
theorem okU0 {u : UInt32} (h : Nat.blt u.toNat 8 = true) : okU u = true := by
  have h := Nat.blt_eq.mp h
  exact Nat.blt_eq.mpr (by omega)
theorem okU1 {u : UInt32} {y : Int32} (h : Nat.blt u.toNat 8 = true) (h2 : Nat.blt y.toNatClampNeg 32 = true) : okU (UInt32.ofNat (256 + y.toNatClampNeg * 8 + u.toNat)) = true := by
  have h := Nat.blt_eq.mp h
  have h2 := Nat.blt_eq.mp h2
  rw [okU, u_of (by omega)]
  exact Nat.blt_eq.mpr (by omega)
theorem ev1 (xs : Nat → Int32) {u : UInt32} {y : Int32} (h : Nat.blt u.toNat 8 = true) (h2 : Nat.blt y.toNatClampNeg 32 = true) (h3 : y = Int32.ofNat y.toNatClampNeg) : evE xs (UInt32.ofNat (256 + y.toNatClampNeg * 8 + u.toNat)) = evE xs u >>> (y &&& 31) := by
  have h := Nat.blt_eq.mp h
  have h2 := Nat.blt_eq.mp h2
  have e : (UInt32.ofNat (256 + y.toNatClampNeg * 8 + u.toNat)).toNat = 256 + y.toNatClampNeg * 8 + u.toNat := u_of (by omega)
  have e2 : evE xs u = xs u.toNat := by
    unfold evE
    simp only [show u.toNat / 256 = 0 by omega, show u.toNat % 8 = u.toNat by omega]
  rw [e2]
  unfold evE
  rw [e, show (256 + y.toNatClampNeg * 8 + u.toNat) / 256 = 1 by omega, show (256 + y.toNatClampNeg * 8 + u.toNat) % 8 = u.toNat by omega, show (256 + y.toNatClampNeg * 8 + u.toNat) / 8 % 32 = y.toNatClampNeg by omega, ← h3]
  rfl
theorem u_add {u : UInt32} {n : Nat} (h : okU u = true) (hn : n < 1024) : (u + UInt32.ofNat n).toNat = u.toNat + n := by
  have h := okU_lt h
  rw [UInt32.toNat_add, u_of (by omega)]
  exact Nat.mod_eq_of_lt (by omega)
theorem okU2 {u : UInt32} (h : okU u = true) (h2 : Nat.beq (u.toNat / 256) 1 = true) : okU (u + 256) = true := by
  have h3 := Nat.eq_of_beq_eq_true h2
  have e : (u + 256).toNat = u.toNat + 256 := u_add (n := 256) h (by omega)
  rw [okU, e]
  exact Nat.blt_eq.mpr (by omega)
theorem okU3 {u : UInt32} (h : okU u = true) (h2 : Nat.beq (u.toNat / 256) 1 = true) : okU (u + 512) = true := by
  have h3 := Nat.eq_of_beq_eq_true h2
  have e : (u + 512).toNat = u.toNat + 512 := u_add (n := 512) h (by omega)
  rw [okU, e]
  exact Nat.blt_eq.mpr (by omega)
theorem ev2 (xs : Nat → Int32) {u : UInt32} (h : okU u = true) (h2 : Nat.beq (u.toNat / 256) 1 = true) : evE xs (u + 256) = (evE xs u).toInt8.toInt32 := by
  have h3 := Nat.eq_of_beq_eq_true h2
  have e : (u + 256).toNat = u.toNat + 256 := u_add (n := 256) h (by omega)
  unfold evE
  rw [e, h3, show (u.toNat + 256) / 256 = 2 by omega, show (u.toNat + 256) % 8 = u.toNat % 8 by omega, show (u.toNat + 256) / 8 % 32 = u.toNat / 8 % 32 by omega]
  rfl
theorem ev3 (xs : Nat → Int32) {u : UInt32} (h : okU u = true) (h2 : Nat.beq (u.toNat / 256) 1 = true) : evE xs (u + 512) = evE xs u &&& 255 := by
  have h3 := Nat.eq_of_beq_eq_true h2
  have e : (u + 512).toNat = u.toNat + 512 := u_add (n := 512) h (by omega)
  unfold evE
  rw [e, h3, show (u.toNat + 512) / 256 = 3 by omega, show (u.toNat + 512) % 8 = u.toNat % 8 by omega, show (u.toNat + 512) / 8 % 32 = u.toNat / 8 % 32 by omega]
  rfl
theorem and_m1 (x : Int32) : x &&& (-1) = x := by
  apply Int32.toBitVec_inj.mp
  rw [Int32.toBitVec_and]
  show x.toBitVec &&& (-1 : Int32).toBitVec = x.toBitVec
  rw [show (-1 : Int32).toBitVec = BitVec.allOnes 32 by decide +kernel, BitVec.and_allOnes]
section FI
variable {l : aL} {mi : aI} {P : aP} {kc ks pc : Nat} {lv : List (Nat × Value)} {st : List Value} {sh : aH} {M : aM} {sc : aSc} {xs : Nat → Int32} {u : UInt32}
theorem AW.fI (hG : ∀ G, l.2 G → scOk sc xs G) (h : okU u = true) (k : AW l mi P kc ks pc lv (.int (evE xs u) :: st) sh M) : AW l mi P kc ks pc lv (.float u :: st) sh M := AW.cast (fun G hΓ => ⟨rfl, map_top (show cv G (.float u) = cv G (.int (evE xs u)) from cv_f (hG G hΓ).1 h)⟩) k
theorem AW.fI2 {a : Value} (hG : ∀ G, l.2 G → scOk sc xs G) (h : okU u = true) (k : AW l mi P kc ks pc lv (a :: .int (evE xs u) :: st) sh M) : AW l mi P kc ks pc lv (a :: .float u :: st) sh M := AW.cast (fun G hΓ => ⟨rfl, map_2 (show cv G (.float u) = cv G (.int (evE xs u)) from cv_f (hG G hΓ).1 h)⟩) k
theorem AW.If (hG : ∀ G, l.2 G → scOk sc xs G) (h : okU u = true) (k : AW l mi P kc ks pc lv (.float u :: st) sh M) : AW l mi P kc ks pc lv (.int (evE xs u) :: st) sh M := AW.cast (fun G hΓ => ⟨rfl, map_top (show cv G (.int (evE xs u)) = cv G (.float u) from (cv_f (hG G hΓ).1 h).symm)⟩) k
theorem AW.iloadV_n {n : Fin 4} {v : Value} (hd : decode (iC mi) pc = .ok (.iload_n n, 1)) (hv : lk lv n = some v) (hi : ∀ G, ∃ x : Int32, cv G v = .int x) (k : AW l mi P kc ks (pc + 1) lv (v :: st) sh M) : AW l mi P kc ks pc lv st sh M := by
  intro p e s m args below meth c G H locs cells slots ls KC KS C E w hS hl hc hs
  obtain ⟨x, hx⟩ := hi G
  have h1 := k p e s m args below meth c G H locs cells slots ls KC KS C E w hS hl hc hs
  have h2 := lk_at hl hv
  rw [hx] at h2
  rw [List.map_cons, hx] at h1
  exact lv_iload_n C.1 C.2.1 hd rfl h2 h1
theorem AW.iloadV {n : Nat} {v : Value} (hd : decode (iC mi) pc = .ok (.iload n, 2)) (hv : lk lv n = some v) (hi : ∀ G, ∃ x : Int32, cv G v = .int x) (k : AW l mi P kc ks (pc + 2) lv (v :: st) sh M) : AW l mi P kc ks pc lv st sh M := by
  intro p e s m args below meth c G H locs cells slots ls KC KS C E w hS hl hc hs
  obtain ⟨x, hx⟩ := hi G
  have h1 := k p e s m args below meth c G H locs cells slots ls KC KS C E w hS hl hc hs
  have h2 := lk_at hl hv
  rw [hx] at h2
  rw [List.map_cons, hx] at h1
  exact lv_iload C.1 C.2.1 hd h2 h1
theorem AW.istoreV_n {n : Fin 4} {v : Value} (hd : decode (iC mi) pc = .ok (.istore_n n, 1)) (hi : ∀ G, ∃ x : Int32, cv G v = .int x) (hn : (n : Nat) < iL mi) (k : AW l mi P kc ks (pc + 1) (s1 lv n v) st sh M) : AW l mi P kc ks pc lv (v :: st) sh M := by
  intro p e s m args below meth c G H locs cells slots ls KC KS C E w hS hl hc hs
  obtain ⟨x, hx⟩ := hi G
  have e9 := lcv_s1 G lv n v
  rw [hx] at e9
  rw [List.map_cons, hx]
  exact lv_istore_n C.1 C.2.1 hd rfl hl hn e9 (fun ls hl => k p e s m args below meth c G H locs cells slots ls KC KS C E w hS hl hc hs)
theorem AW.istoreV {n : Nat} {v : Value} (hd : decode (iC mi) pc = .ok (.istore n, 2)) (hi : ∀ G, ∃ x : Int32, cv G v = .int x) (hn : (n : Nat) < iL mi) (k : AW l mi P kc ks (pc + 2) (s1 lv n v) st sh M) : AW l mi P kc ks pc lv (v :: st) sh M := by
  intro p e s m args below meth c G H locs cells slots ls KC KS C E w hS hl hc hs
  obtain ⟨x, hx⟩ := hi G
  have e9 := lcv_s1 G lv n v
  rw [hx] at e9
  rw [List.map_cons, hx]
  exact lv_istore C.1 C.2.1 hd hl hn e9 (fun ls hl => k p e s m args below meth c G H locs cells slots ls KC KS C E w hS hl hc hs)
end FI
/-- a program: methods, their instructions, the class that a method stands in, fields, callees (number, kind, parameters), classes to make, constants, a callee's own class, constructors, throws, handlers that answer a number -/
abbrev aPg : Type := (Nat → aI) × (Nat → Nat → Option (Instr × Nat)) × (Nat → Nat) × (Nat → Nat → Option (Nat × Nat × Nat)) × (Nat → Nat → Option (Nat × Nat × Nat)) × (Nat → Nat → Option Nat) × (Nat → Nat → Option Int32) × (Nat → Nat → Option Int64) × (Nat → Nat) × (Nat → Bool) × (Nat → Nat → Option String) × (Nat → Nat → String → Option Int)
abbrev pI (g : aPg) : Nat → aI := g.1
abbrev pT (g : aPg) : Nat → Nat → Option (Instr × Nat) := g.2.1
abbrev pO (g : aPg) : Nat → Nat := g.2.2.1
abbrev pF (g : aPg) : Nat → Nat → Option (Nat × Nat × Nat) := g.2.2.2.1
abbrev pM (g : aPg) : Nat → Nat → Option (Nat × Nat × Nat) := g.2.2.2.2.1
abbrev pC (g : aPg) : Nat → Nat → Option Nat := g.2.2.2.2.2.1
abbrev pK (g : aPg) : Nat → Nat → Option Int32 := g.2.2.2.2.2.2.1
abbrev pJ (g : aPg) : Nat → Nat → Option Int64 := g.2.2.2.2.2.2.2.1
abbrev pN (g : aPg) : Nat → Nat := g.2.2.2.2.2.2.2.2.1
abbrev pX (g : aPg) : Nat → Bool := g.2.2.2.2.2.2.2.2.2.1
abbrev pE (g : aPg) : Nat → Nat → Option String := g.2.2.2.2.2.2.2.2.2.2.1
abbrev pH (g : aPg) : Nat → Nat → String → Option Int := g.2.2.2.2.2.2.2.2.2.2.2
def okF (mi : aI) (n ci k f : Nat) : Prop := ∃ q : vw_C, vwCl[ci]? = some q ∧ clOk ci q ∧ k < q.2.2 ∧ Cond.fieldLink (iO mi) n (q.2.1 k).1 (q.2.1 k).2.1 (q.2.1 k).2.2.1 ∈ GW ∧ (f = 0 → (q.2.1 k).2.2.2 = false) ∧ (f = 1 → (q.2.1 k).1 = iO mi)
def okC (mi : aI) (n ci : Nat) : Prop := ∃ q : vw_C, vwCl[ci]? = some q ∧ clOk ci q ∧ Cond.classLink (iO mi) n q.1 ∈ GW ∧ Cond.instantiable q.1 q.2.2 ∈ GW ∧ Cond.initialized q.1 ∈ GW
def okN (mj : aI) (np : Nat) : Prop := (iY mj).cls ≠ "java/lang/invoke/MethodHandle" ∧ (iY mj).cls ≠ "java/lang/invoke/VarHandle" ∧ (parseMethodDescriptor (iY mj).desc).map (fun d => d.parameters.length) = some np
def okI (mi : aI) : Prop := plainName (iY mi).cls = true ∧ (iY mi).cls = iO mi ∧ iT mi = []
/-- kinds of calls: 0 an instance's, 1 static, 2 a constructor, 3 a nest mate's constructor, 4 Object's constructor, 5 System.arraycopy, 6 static with handlers -/
def okM (mi mj : aI) (n kd np cn : Nat) : Prop := (kd = 0 → cV mi mj n ∧ okN mj np ∧ (∃ q : vw_C, vwCl[cn]? = some q ∧ q.1 = (iY mj).cls) ∧ okI mj) ∧ (kd = 1 → cS mi mj n ∧ okN mj np ∧ okI mj) ∧ (kd = 2 → cI mi mj n ∧ okN mj np ∧ okI mj) ∧ (kd = 3 → cN mi mj n ∧ okN mj np ∧ okI mj) ∧
  (kd = 4 → Cond.methodLink (iO mi) n Lib.objectInit ∈ GW ∧ Cond.instanceMethod Lib.objectInit ∈ GW ∧ Cond.code Lib.objectInit ⟨#[0xb1]⟩ 1 none ∈ GW) ∧ (kd = 5 → cY mi n) ∧ (kd = 6 → ∃ hh, cH mi mj hh n ∧ okN mj np ∧ plainName (iY mj).cls = true ∧ (iY mj).cls = iO mj ∧ iT mj = tableOf hh)
def pgOk (g : aPg) : Prop :=
  (∀ id pc i n, pT g id pc = some (i, n) → decode (iC (pI g id)) pc = .ok (i, n)) ∧
  (∀ id n ci k f, pF g (pO g id) n = some (ci, k, f) → okF (pI g id) n ci k f) ∧
  (∀ id n mj kd np, pM g (pO g id) n = some (mj, kd, np) → okM (pI g id) (pI g mj) n kd np (pN g mj)) ∧
  (∀ id n ci, pC g (pO g id) n = some ci → okC (pI g id) n ci) ∧
  (∀ id n v, pK g (pO g id) n = some v → Cond.constant (iO (pI g id)) n v ∈ GW) ∧
  (∀ id n v, pJ g (pO g id) n = some v → Cond.constantLong (iO (pI g id)) n v ∈ GW) ∧
  (∀ id, pX g id = true → (iY (pI g id)).name = "<init>") ∧
  (∀ id pc X, pE g id pc = some X → ∀ (l : aL) (P : aP) (kc ks : Nat) (lv : List (Nat × Value)) (sh : aH) (M : aM), P (.inr X) (false, sh.2) M → AW l (pI g id) P (kc + 1) (ks + 6) pc lv [] sh M) ∧
  (∀ id pc X k, pH g id pc X = some k → ∀ (l : aL) (P : aP) (kc ks : Nat) (lv : List (Nat × Value)) (sh : aH) (M : aM), P (.inl (some (.int (Int32.ofInt k)))) sh M → AX l (pI g id) P kc ks pc lv sh M X)
/-- where the machine stands: place, locals, stack, shapes, memory; cells and slots made on the way -/
abbrev aK : Type := Nat × List (Nat × Value) × List Value × aH × gM × Nat × Nat
def tgt (pc : Nat) (off : Int) : Option Nat := match (pc : Int) + off with
  | .ofNat t => some t
  | .negSucc _ => none
theorem tgt_spec {pc t : Nat} {off : Int} (h : tgt pc off = some t) : (pc : Int) + off = (t : Int) := by
  unfold tgt at h
  split at h
  · next h1 => cases h; exact h1
  · cases h
def inB (j : Int32) (n : Nat) : Bool := !decide (j < 0) && Nat.blt j.toNatClampNeg n
theorem inB_spec {j : Int32} {n : Nat} (h : inB j n = true) : vp_in j n := by
  simp only [inB, Bool.and_eq_true, Bool.not_eq_true', decide_eq_false_iff_not] at h
  intro h2
  rcases h2 with h2 | h2
  · exact h.1 h2
  · have := Nat.blt_eq.mp h.2
    omega
/-- a shape asked -/
def shO (sh : aH) (j ci : Nat) : Bool := match sh.2[j]? with
  | some (.inl c) => Nat.beq c ci
  | _ => false
theorem shO_spec {sh : aH} {j ci : Nat} (h : shO sh j ci = true) : sh.2[j]? = some (.inl ci) := by
  unfold shO at h
  split at h
  · next c hc => rw [hc, Nat.eq_of_beq_eq_true h]
  · cases h
def shA (sh : aH) (j : Nat) (ty : FieldType) : Option Nat := match sh.2[j]? with
  | some (.inr (t, n)) => if t = ty then some n else none
  | _ => none
theorem shA_spec {sh : aH} {j n : Nat} {ty : FieldType} (h : shA sh j ty = some n) : sh.2[j]? = some (.inr (ty, n)) := by
  unfold shA at h
  split at h
  · next t n' hc =>
      split at h
      · next e => cases h; subst e; exact hc
      · cases h
  · cases h
theorem bif_some {α : Type} {b : Bool} {x y : α} (h : (bif b then some x else none) = some y) : b = true ∧ x = y := by
  cases b with
  | true => exact ⟨rfl, Option.some.inj h⟩
  | false => cases h
theorem bif_some2 {α : Type} {b : Bool} {x : Option α} {y : α} (h : (bif b then x else none) = some y) : b = true ∧ x = some y := by
  cases b with
  | true => exact ⟨rfl, h⟩
  | false => cases h
/-- one instruction that is no call and no return -/
def a2 (g : aPg) (sc : aSc) (id pc : Nat) (i : Instr) (len : Nat) (lv : List (Nat × Value)) (st : List Value) (sh : aH) (m : gM) : Option aK :=
  match i with
  | .iconst v => bif Nat.beq len 1 then some (pc + 1, lv, .int (Int32.ofInt v) :: st, sh, m, 0, 0) else none
  | .bipush v => bif Nat.beq len 2 then some (pc + 2, lv, .int ((Int8.ofInt v).toInt32) :: st, sh, m, 0, 0) else none
  | .sipush v => bif Nat.beq len 3 then some (pc + 3, lv, .int ((Int16.ofInt v).toInt32) :: st, sh, m, 0, 0) else none
  | .lconst v => bif Nat.beq len 1 then some (pc + 1, lv, .long (Int64.ofNat v) :: st, sh, m, 0, 0) else none
  | .iload_n q => (match lk lv q with | some v => (bif Nat.beq len 1 && sy v then some (pc + 1, lv, v :: st, sh, m, 0, 0) else none) | _ => none)
  | .lload_n q => (match lk lv q with | some (.long x) => (bif Nat.beq len 1 then some (pc + 1, lv, .long x :: st, sh, m, 0, 0) else none) | _ => none)
  | .iload q => (match lk lv q with | some v => (bif Nat.beq len 2 && sy v then some (pc + 2, lv, v :: st, sh, m, 0, 0) else none) | _ => none)
  | .lload q => (match lk lv q with | some (.long x) => (bif Nat.beq len 2 then some (pc + 2, lv, .long x :: st, sh, m, 0, 0) else none) | _ => none)
  | .aload_n q => (match lk lv q with | some v => (bif Nat.beq len 1 && isR v then some (pc + 1, lv, v :: st, sh, m, 0, 0) else none) | _ => none)
  | .aload q => (match lk lv q with | some v => (bif Nat.beq len 2 && isR v then some (pc + 2, lv, v :: st, sh, m, 0, 0) else none) | _ => none)
  | .istore_n q => (match st with | v :: st => (bif Nat.beq len 1 && (sy v && Nat.blt (q : Nat) (iL (pI g id))) then some (pc + 1, s1 lv q v, st, sh, m, 0, 0) else none) | _ => none)
  | .lstore_n q => (match st with | .long x :: st => (bif Nat.beq len 1 && Nat.blt ((q : Nat) + 1) (iL (pI g id)) then some (pc + 1, s2 lv q (.long x), st, sh, m, 0, 0) else none) | _ => none)
  | .istore q => (match st with | v :: st => (bif Nat.beq len 2 && (sy v && Nat.blt q (iL (pI g id))) then some (pc + 2, s1 lv q v, st, sh, m, 0, 0) else none) | _ => none)
  | .lstore q => (match st with | .long x :: st => (bif Nat.beq len 2 && Nat.blt (q + 1) (iL (pI g id)) then some (pc + 2, s2 lv q (.long x), st, sh, m, 0, 0) else none) | _ => none)
  | .astore_n q => (match st with | v :: st => (bif Nat.beq len 1 && (isR v && Nat.blt (q : Nat) (iL (pI g id))) then some (pc + 1, s1 lv q v, st, sh, m, 0, 0) else none) | _ => none)
  | .astore q => (match st with | v :: st => (bif Nat.beq len 2 && (isR v && Nat.blt q (iL (pI g id))) then some (pc + 2, s1 lv q v, st, sh, m, 0, 0) else none) | _ => none)
  | .iinc q v => (match lk lv q with | some (.int x) => (bif Nat.beq len 3 && Nat.blt q (iL (pI g id)) then some (pc + 3, s1 lv q (.int (x + Int32.ofInt v)), st, sh, m, 0, 0) else none) | _ => none)
  | .iadd => (match st with | .int y :: .int x :: st => (bif Nat.beq len 1 then some (pc + 1, lv, .int (x + y) :: st, sh, m, 0, 0) else none) | _ => none)
  | .isub => (match st with | .int y :: .int x :: st => (bif Nat.beq len 1 then some (pc + 1, lv, .int (x - y) :: st, sh, m, 0, 0) else none) | _ => none)
  | .imul => (match st with | .int y :: .int x :: st => (bif Nat.beq len 1 then some (pc + 1, lv, .int (x * y) :: st, sh, m, 0, 0) else none) | _ => none)
  | .ior => (match st with | .int y :: .int x :: st => (bif Nat.beq len 1 then some (pc + 1, lv, .int (x ||| y) :: st, sh, m, 0, 0) else none) | _ => none)
  | .ixor => (match st with | .int y :: .int x :: st => (bif Nat.beq len 1 then some (pc + 1, lv, .int (x ^^^ y) :: st, sh, m, 0, 0) else none) | _ => none)
  | .ishl => (match st with | .int y :: .int x :: st => (bif Nat.beq len 1 then some (pc + 1, lv, .int (x <<< (y &&& 31)) :: st, sh, m, 0, 0) else none) | _ => none)
  | .iushr => (match st with | .int y :: .int x :: st => (bif Nat.beq len 1 then some (pc + 1, lv, .int ((x.toUInt32 >>> (y.toUInt32 &&& Int32.toUInt32 31)).toInt32) :: st, sh, m, 0, 0) else none) | _ => none)
  | .idiv => (match st with | .int y :: .int x :: st => (bif Nat.beq len 1 && !decide (y = 0) then some (pc + 1, lv, .int (x / y) :: st, sh, m, 0, 0) else none) | _ => none)
  | .irem => (match st with | .int y :: .int x :: st => (bif Nat.beq len 1 && !decide (y = 0) then some (pc + 1, lv, .int (x - x / y * y) :: st, sh, m, 0, 0) else none) | _ => none)
  | .ladd => (match st with | .long y :: .long x :: st => (bif Nat.beq len 1 then some (pc + 1, lv, .long (x + y) :: st, sh, m, 0, 0) else none) | _ => none)
  | .lsub => (match st with | .long y :: .long x :: st => (bif Nat.beq len 1 then some (pc + 1, lv, .long (x - y) :: st, sh, m, 0, 0) else none) | _ => none)
  | .lmul => (match st with | .long y :: .long x :: st => (bif Nat.beq len 1 then some (pc + 1, lv, .long (x * y) :: st, sh, m, 0, 0) else none) | _ => none)
  | .land => (match st with | .long y :: .long x :: st => (bif Nat.beq len 1 then some (pc + 1, lv, .long (x &&& y) :: st, sh, m, 0, 0) else none) | _ => none)
  | .lor => (match st with | .long y :: .long x :: st => (bif Nat.beq len 1 then some (pc + 1, lv, .long (x ||| y) :: st, sh, m, 0, 0) else none) | _ => none)
  | .ldiv => (match st with | .long y :: .long x :: st => (bif Nat.beq len 1 && !decide (y = 0) then some (pc + 1, lv, .long (x / y) :: st, sh, m, 0, 0) else none) | _ => none)
  | .lcmp => (match st with | .long y :: .long x :: st => (bif Nat.beq len 1 then some (pc + 1, lv, .int (lg_cmp x y) :: st, sh, m, 0, 0) else none) | _ => none)
  | .lshl => (match st with | .int y :: .long x :: st => (bif Nat.beq len 1 then some (pc + 1, lv, .long (x <<< (y.toInt64 &&& 63)) :: st, sh, m, 0, 0) else none) | _ => none)
  | .lshr => (match st with | .int y :: .long x :: st => (bif Nat.beq len 1 then some (pc + 1, lv, .long (x >>> (y.toInt64 &&& 63)) :: st, sh, m, 0, 0) else none) | _ => none)
  | .lushr => (match st with | .int y :: .long x :: st => (bif Nat.beq len 1 then some (pc + 1, lv, .long ((x.toUInt64 >>> (y.toInt64.toUInt64 &&& Int64.toUInt64 63)).toInt64) :: st, sh, m, 0, 0) else none) | _ => none)
  | .i2l => (match st with | .int x :: st => (bif Nat.beq len 1 then some (pc + 1, lv, .long x.toInt64 :: st, sh, m, 0, 0) else none) | _ => none)
  | .l2i => (match st with | .long x :: st => (bif Nat.beq len 1 then some (pc + 1, lv, .int x.toInt32 :: st, sh, m, 0, 0) else none) | _ => none)
  | .iand => (match st with | .int y :: .int x :: st => (bif Nat.beq len 1 && true then some (pc + 1, lv, .int (x &&& y) :: st, sh, m, 0, 0) else none) | .int y :: .float u :: st => (bif Nat.beq len 1 && (okU u && decide (y = -1)) then some (pc + 1, lv, .float u :: st, sh, m, 0, 0) else (bif Nat.beq len 1 && (okU u && (decide (y = 255) && Nat.beq (u.toNat / 256) 1)) then some (pc + 1, lv, .float (u + 512) :: st, sh, m, 0, 0) else (bif Nat.beq len 1 && (okU u && (lkB sc.2.2.2 u y).isSome) then some (pc + 1, lv, .int ((lkB sc.2.2.2 u y).getD 0) :: st, sh, m, 0, 0) else none))) | _ => none)
  | .ishr => (match st with | .int y :: .int x :: st => (bif Nat.beq len 1 && true then some (pc + 1, lv, .int (x >>> (y &&& 31)) :: st, sh, m, 0, 0) else none) | .int y :: .float u :: st => (bif Nat.beq len 1 && (Nat.blt u.toNat 8 && (Nat.blt y.toNatClampNeg 32 && decide (y = Int32.ofNat y.toNatClampNeg))) then some (pc + 1, lv, .float (UInt32.ofNat (256 + y.toNatClampNeg * 8 + u.toNat)) :: st, sh, m, 0, 0) else none) | _ => none)
  | .i2b => (match st with | .int x :: st => (bif Nat.beq len 1 && true then some (pc + 1, lv, .int x.toInt8.toInt32 :: st, sh, m, 0, 0) else none) | .float u :: st => (bif Nat.beq len 1 && (okU u && Nat.beq (u.toNat / 256) 1) then some (pc + 1, lv, .float (u + 256) :: st, sh, m, 0, 0) else none) | _ => none)
  | .i2c => (match st with | .int x :: st => (bif Nat.beq len 1 then some (pc + 1, lv, .int ((x.toUInt32 % 65536).toInt32) :: st, sh, m, 0, 0) else none) | _ => none)
  | .dup => (match st with | v :: st => (bif Nat.beq len 1 && Nat.beq v.category 1 then some (pc + 1, lv, v :: v :: st, sh, m, 0, 0) else none) | _ => none)
  | .pop => (match st with | v :: st => (bif Nat.beq len 1 && Nat.beq v.category 1 then some (pc + 1, lv, st, sh, m, 0, 0) else none) | _ => none)
  | .dup2 => (match st with | v :: w :: st => (bif Nat.beq len 1 && (Nat.beq v.category 1 && Nat.beq w.category 1) then some (pc + 1, lv, v :: w :: v :: w :: st, sh, m, 0, 0) else none) | _ => none)
  | .if_icmp c off => (match st with | .int y :: .int x :: st => (bif Nat.beq len 3 then (match tgt pc off with | some t => some (bif brI c x y then t else pc + 3, lv, st, sh, m, 0, 0) | none => none) else none) | .int y :: .float u :: st => (bif Nat.beq len 3 && okU u then (match lkC sc.2.2.1 u c y with | some b => (match tgt pc off with | some t => some (bif b then t else pc + 3, lv, st, sh, m, 0, 0) | none => none) | none => none) else none) | _ => none)
  | .ifCond c off => (match st with | .int x :: st => (bif Nat.beq len 3 then (match tgt pc off with | some t => some (bif brI c x 0 then t else pc + 3, lv, st, sh, m, 0, 0) | none => none) else none) | .float u :: st => (bif Nat.beq len 3 && okU u then (match lkC sc.2.2.1 u c 0 with | some b => (match tgt pc off with | some t => some (bif b then t else pc + 3, lv, st, sh, m, 0, 0) | none => none) | none => none) else none) | _ => none)
  | .goto off => (bif Nat.beq len 3 then (match tgt pc off with | some t => some (t, lv, st, sh, m, 0, 0) | none => none) else none)
  | .tableswitch dflt lo hi offs => (match st with | .int x :: st => (bif decide (x.toInt < lo) || decide (hi < x.toInt) then (match tgt pc dflt with | some t => some (t, lv, st, sh, m, 0, 0) | none => none) else (match offs[(x.toInt - lo).toNat]? with | some off => (match tgt pc off with | some t => some (t, lv, st, sh, m, 0, 0) | none => none) | none => none)) | .float u :: st => (bif okU u && ((match lkC sc.2.2.1 u .lt (Int32.ofInt lo) with | some b => b && decide ((Int32.ofInt lo).toInt = lo) | none => false) || (match lkC sc.2.2.1 u .gt (Int32.ofInt hi) with | some b => b && decide ((Int32.ofInt hi).toInt = hi) | none => false)) then (match tgt pc dflt with | some t => some (t, lv, st, sh, m, 0, 0) | none => none) else none) | _ => none)
  | .ldc q => (match pK g (pO g id) q with | some v => (bif Nat.beq len 2 then some (pc + 2, lv, .int v :: st, sh, m, 0, 0) else none) | _ => none)
  | .ldc_w q => (match pK g (pO g id) q with | some v => (bif Nat.beq len 3 then some (pc + 3, lv, .int v :: st, sh, m, 0, 0) else none) | _ => none)
  | .ldc2_w q => (match pJ g (pO g id) q with | some v => (bif Nat.beq len 3 then some (pc + 3, lv, .long v :: st, sh, m, 0, 0) else none) | _ => none)
  | .getfield q => (match st with | .ref j :: st => (match pF g (pO g id) q with | some (ci, f, b) => (bif Nat.beq len 3 && (shO sh j ci && rdO m j f (tyO ci f)) then some (pc + 3, lv, gv m j f (tyO ci f) :: st, sh, m, 0, 0) else none) | none => none) | _ => none)
  | .putfield q => (match st with | v :: .ref j :: st => (match pF g (pO g id) q with | some (ci, f, b) => (bif Nat.beq len 3 && (shO sh j ci && (vok (tyO ci f) v && (Nat.beq b 0 || (Nat.beq b 1 && pX g id)))) then some (pc + 3, lv, st, sh, gset m j f v, 0, 0) else none) | none => none) | _ => none)
  | .iaload => (match st with | .int x :: .ref j :: st => (match shA sh j .int with | some n => (bif Nat.beq len 1 && (inB x n && sy (gk (.int 0) m.1 j x.toNatClampNeg)) then some (pc + 1, lv, gk (.int 0) m.1 j x.toNatClampNeg :: st, sh, m, 0, 0) else none) | none => none) | .int x :: .retAddr 0 :: st => (match sc.1 with | some L => (bif Nat.beq len 1 && (inB x L && Nat.blt x.toNatClampNeg 8) then some (pc + 1, lv, (match sc.2.1 x.toNatClampNeg with | some y => Value.int y | none => .float (UInt32.ofNat x.toNatClampNeg)) :: st, sh, m, 0, 0) else none) | none => none) | _ => none)
  | .baload => (match st with | .int x :: .ref j :: st => (match shA sh j .byte with | some n => (bif Nat.beq len 1 && (inB x n && sy (gk (.int 0) m.1 j x.toNatClampNeg)) then some (pc + 1, lv, gk (.int 0) m.1 j x.toNatClampNeg :: st, sh, m, 0, 0) else none) | none => (match shA sh j .boolean with | some n => (bif Nat.beq len 1 && (inB x n && sy (gk (.int 0) m.1 j x.toNatClampNeg)) then some (pc + 1, lv, gk (.int 0) m.1 j x.toNatClampNeg :: st, sh, m, 0, 0) else none) | none => none)) | _ => none)
  | .laload => (match st with | .int x :: .ref j :: st => (match shA sh j .long with | some n => (bif Nat.beq len 1 && inB x n then some (pc + 1, lv, .long (gk 0 m.2.1 j x.toNatClampNeg) :: st, sh, m, 0, 0) else none) | none => none) | _ => none)
  | .iastore => (match st with | v :: .int x :: .ref j :: st => (match shA sh j .int with | some n => (bif Nat.beq len 1 && (inB x n && sy v) then some (pc + 1, lv, st, sh, gset m j x.toNatClampNeg (v), 0, 0) else none) | none => none) | _ => none)
  | .bastore => (match st with | v :: .int x :: .ref j :: st => (match shA sh j .byte with | some n => (bif Nat.beq len 1 && (inB x n && nrO v) then some (pc + 1, lv, st, sh, gset m j x.toNatClampNeg (nrB v), 0, 0) else none) | none => (match shA sh j .boolean with | some n => (bif Nat.beq len 1 && (inB x n && nrY v) then some (pc + 1, lv, st, sh, gset m j x.toNatClampNeg (nrZ v), 0, 0) else none) | none => none)) | _ => none)
  | .lastore => (match st with | .long y :: .int x :: .ref j :: st => (match shA sh j .long with | some n => (bif Nat.beq len 1 && inB x n then some (pc + 1, lv, st, sh, gset m j x.toNatClampNeg (.long y), 0, 0) else none) | none => none) | _ => none)
  | .arraylength => (match st with | .ref j :: st => (match sh.2[j]? with | some (.inr (_, n)) => (bif Nat.beq len 1 then some (pc + 1, lv, .int (Int32.ofNat n) :: st, sh, m, 0, 0) else none) | _ => none) | .retAddr 0 :: st => (match sc.1 with | some L => (bif Nat.beq len 1 then some (pc + 1, lv, .int (Int32.ofNat L) :: st, sh, m, 0, 0) else none) | none => none) | _ => none)
  | .new q => (match pC g (pO g id) q with | some ci => (match vwCl[ci]? with | some w => (bif Nat.beq len 3 && sh.1 then some (pc + 3, lv, .ref sh.2.length :: st, (true, sh.2 ++ [.inl ci]), m, 1, w.2.2) else none) | none => none) | none => none)
  | .newarray at_ => (match st with | .int x :: st => (match at_ with | .int => (bif Nat.beq len 2 && (sh.1 && (!decide (x < 0) && Nat.ble (x.toNatClampNeg * componentBytes .int) 536870912)) then some (pc + 2, lv, .ref sh.2.length :: st, (true, sh.2 ++ [.inr (.int, x.toNatClampNeg)]), m, 1, x.toNatClampNeg) else none) | .byte => (bif Nat.beq len 2 && (sh.1 && (!decide (x < 0) && Nat.ble (x.toNatClampNeg * componentBytes .byte) 536870912)) then some (pc + 2, lv, .ref sh.2.length :: st, (true, sh.2 ++ [.inr (.byte, x.toNatClampNeg)]), m, 1, x.toNatClampNeg) else none) | .long => (bif Nat.beq len 2 && (sh.1 && (!decide (x < 0) && Nat.ble (x.toNatClampNeg * componentBytes .long) 536870912)) then some (pc + 2, lv, .ref sh.2.length :: st, (true, sh.2 ++ [.inr (.long, x.toNatClampNeg)]), m, 1, x.toNatClampNeg) else none) | .boolean => (bif Nat.beq len 2 && (sh.1 && (!decide (x < 0) && Nat.ble (x.toNatClampNeg * componentBytes .boolean) 536870912)) then some (pc + 2, lv, .ref sh.2.length :: st, (true, sh.2 ++ [.inr (.boolean, x.toNatClampNeg)]), m, 1, x.toNatClampNeg) else none) | _ => none) | _ => none)
  | _ => none
def a2G (l : aL) (g : aPg) (xs : Nat → Int32) (id : Nat) (P : aP) (kc ks pc : Nat) (lv : List (Nat × Value)) (st : List Value) (sh : aH) (m : gM) (K : aK) : Prop := AW l (pI g id) P kc ks K.1 K.2.1 K.2.2.1 K.2.2.2.1 (den xs K.2.2.2.2.1) → AW l (pI g id) P (kc + K.2.2.2.2.2.1) (ks + K.2.2.2.2.2.2) pc lv st sh (den xs m)
theorem a2_iconst {l : aL} {g : aPg} {sc : aSc} {xs : Nat → Int32} {id pc len kc ks : Nat} {lv : List (Nat × Value)} {st : List Value} {sh : aH} {m : gM} {K : aK} {P : aP} {v : Int} (G : pgOk g) (hG : ∀ G, l.2 G → scOk sc xs G) (hd : decode (iC (pI g id)) pc = .ok (.iconst v, len)) (h : a2 g sc id pc (.iconst v) len lv st sh m = some K) : a2G l g xs id P kc ks pc lv st sh m K := by
  simp only [a2] at h
  obtain ⟨h1, rfl⟩ := bif_some h
  have e1 := Nat.eq_of_beq_eq_true h1
  subst e1
  exact fun k => AW.iconst hd k
theorem a2_bipush {l : aL} {g : aPg} {sc : aSc} {xs : Nat → Int32} {id pc len kc ks : Nat} {lv : List (Nat × Value)} {st : List Value} {sh : aH} {m : gM} {K : aK} {P : aP} {v : Int} (G : pgOk g) (hG : ∀ G, l.2 G → scOk sc xs G) (hd : decode (iC (pI g id)) pc = .ok (.bipush v, len)) (h : a2 g sc id pc (.bipush v) len lv st sh m = some K) : a2G l g xs id P kc ks pc lv st sh m K := by
  simp only [a2] at h
  obtain ⟨h1, rfl⟩ := bif_some h
  have e1 := Nat.eq_of_beq_eq_true h1
  subst e1
  exact fun k => AW.bipush hd k
theorem a2_sipush {l : aL} {g : aPg} {sc : aSc} {xs : Nat → Int32} {id pc len kc ks : Nat} {lv : List (Nat × Value)} {st : List Value} {sh : aH} {m : gM} {K : aK} {P : aP} {v : Int} (G : pgOk g) (hG : ∀ G, l.2 G → scOk sc xs G) (hd : decode (iC (pI g id)) pc = .ok (.sipush v, len)) (h : a2 g sc id pc (.sipush v) len lv st sh m = some K) : a2G l g xs id P kc ks pc lv st sh m K := by
  simp only [a2] at h
  obtain ⟨h1, rfl⟩ := bif_some h
  have e1 := Nat.eq_of_beq_eq_true h1
  subst e1
  exact fun k => AW.sipush hd k
theorem a2_lconst {l : aL} {g : aPg} {sc : aSc} {xs : Nat → Int32} {id pc len kc ks : Nat} {lv : List (Nat × Value)} {st : List Value} {sh : aH} {m : gM} {K : aK} {P : aP} {v : Fin 2} (G : pgOk g) (hG : ∀ G, l.2 G → scOk sc xs G) (hd : decode (iC (pI g id)) pc = .ok (.lconst v, len)) (h : a2 g sc id pc (.lconst v) len lv st sh m = some K) : a2G l g xs id P kc ks pc lv st sh m K := by
  simp only [a2] at h
  obtain ⟨h1, rfl⟩ := bif_some h
  have e1 := Nat.eq_of_beq_eq_true h1
  subst e1
  exact fun k => AW.lconst hd k
theorem a2_iload_n {l : aL} {g : aPg} {sc : aSc} {xs : Nat → Int32} {id pc len kc ks : Nat} {lv : List (Nat × Value)} {st : List Value} {sh : aH} {m : gM} {K : aK} {P : aP} {q : Fin 4} (G : pgOk g) (hG : ∀ G, l.2 G → scOk sc xs G) (hd : decode (iC (pI g id)) pc = .ok (.iload_n q, len)) (h : a2 g sc id pc (.iload_n q) len lv st sh m = some K) : a2G l g xs id P kc ks pc lv st sh m K := by
  simp only [a2] at h
  split at h
  · next v he =>
      obtain ⟨h1, rfl⟩ := bif_some h
      rw [Bool.and_eq_true] at h1
      obtain ⟨h1, h2⟩ := h1
      have e1 := Nat.eq_of_beq_eq_true h1
      subst e1
      exact fun k => AW.iloadV_n hd he (sy_int h2) k
  · cases h
theorem a2_lload_n {l : aL} {g : aPg} {sc : aSc} {xs : Nat → Int32} {id pc len kc ks : Nat} {lv : List (Nat × Value)} {st : List Value} {sh : aH} {m : gM} {K : aK} {P : aP} {q : Fin 4} (G : pgOk g) (hG : ∀ G, l.2 G → scOk sc xs G) (hd : decode (iC (pI g id)) pc = .ok (.lload_n q, len)) (h : a2 g sc id pc (.lload_n q) len lv st sh m = some K) : a2G l g xs id P kc ks pc lv st sh m K := by
  simp only [a2] at h
  split at h
  · next x he =>
      obtain ⟨h1, rfl⟩ := bif_some h
      have e1 := Nat.eq_of_beq_eq_true h1
      subst e1
      exact fun k => AW.lload_n hd he k
  · cases h
theorem a2_iload {l : aL} {g : aPg} {sc : aSc} {xs : Nat → Int32} {id pc len kc ks : Nat} {lv : List (Nat × Value)} {st : List Value} {sh : aH} {m : gM} {K : aK} {P : aP} {q : Nat} (G : pgOk g) (hG : ∀ G, l.2 G → scOk sc xs G) (hd : decode (iC (pI g id)) pc = .ok (.iload q, len)) (h : a2 g sc id pc (.iload q) len lv st sh m = some K) : a2G l g xs id P kc ks pc lv st sh m K := by
  simp only [a2] at h
  split at h
  · next v he =>
      obtain ⟨h1, rfl⟩ := bif_some h
      rw [Bool.and_eq_true] at h1
      obtain ⟨h1, h2⟩ := h1
      have e1 := Nat.eq_of_beq_eq_true h1
      subst e1
      exact fun k => AW.iloadV hd he (sy_int h2) k
  · cases h
theorem a2_lload {l : aL} {g : aPg} {sc : aSc} {xs : Nat → Int32} {id pc len kc ks : Nat} {lv : List (Nat × Value)} {st : List Value} {sh : aH} {m : gM} {K : aK} {P : aP} {q : Nat} (G : pgOk g) (hG : ∀ G, l.2 G → scOk sc xs G) (hd : decode (iC (pI g id)) pc = .ok (.lload q, len)) (h : a2 g sc id pc (.lload q) len lv st sh m = some K) : a2G l g xs id P kc ks pc lv st sh m K := by
  simp only [a2] at h
  split at h
  · next x he =>
      obtain ⟨h1, rfl⟩ := bif_some h
      have e1 := Nat.eq_of_beq_eq_true h1
      subst e1
      exact fun k => AW.lload hd he k
  · cases h
theorem a2_aload_n {l : aL} {g : aPg} {sc : aSc} {xs : Nat → Int32} {id pc len kc ks : Nat} {lv : List (Nat × Value)} {st : List Value} {sh : aH} {m : gM} {K : aK} {P : aP} {q : Fin 4} (G : pgOk g) (hG : ∀ G, l.2 G → scOk sc xs G) (hd : decode (iC (pI g id)) pc = .ok (.aload_n q, len)) (h : a2 g sc id pc (.aload_n q) len lv st sh m = some K) : a2G l g xs id P kc ks pc lv st sh m K := by
  simp only [a2] at h
  split at h
  · next v he =>
      obtain ⟨h1, rfl⟩ := bif_some h
      rw [Bool.and_eq_true] at h1
      obtain ⟨h1, h2⟩ := h1
      have e1 := Nat.eq_of_beq_eq_true h1
      subst e1
      exact fun k => AW.aload_n hd he h2 k
  · cases h
theorem a2_aload {l : aL} {g : aPg} {sc : aSc} {xs : Nat → Int32} {id pc len kc ks : Nat} {lv : List (Nat × Value)} {st : List Value} {sh : aH} {m : gM} {K : aK} {P : aP} {q : Nat} (G : pgOk g) (hG : ∀ G, l.2 G → scOk sc xs G) (hd : decode (iC (pI g id)) pc = .ok (.aload q, len)) (h : a2 g sc id pc (.aload q) len lv st sh m = some K) : a2G l g xs id P kc ks pc lv st sh m K := by
  simp only [a2] at h
  split at h
  · next v he =>
      obtain ⟨h1, rfl⟩ := bif_some h
      rw [Bool.and_eq_true] at h1
      obtain ⟨h1, h2⟩ := h1
      have e1 := Nat.eq_of_beq_eq_true h1
      subst e1
      exact fun k => AW.aload hd he h2 k
  · cases h
theorem a2_istore_n {l : aL} {g : aPg} {sc : aSc} {xs : Nat → Int32} {id pc len kc ks : Nat} {lv : List (Nat × Value)} {st : List Value} {sh : aH} {m : gM} {K : aK} {P : aP} {q : Fin 4} (G : pgOk g) (hG : ∀ G, l.2 G → scOk sc xs G) (hd : decode (iC (pI g id)) pc = .ok (.istore_n q, len)) (h : a2 g sc id pc (.istore_n q) len lv st sh m = some K) : a2G l g xs id P kc ks pc lv st sh m K := by
  simp only [a2] at h
  split at h
  · obtain ⟨h1, rfl⟩ := bif_some h
    rw [Bool.and_eq_true] at h1
    obtain ⟨h1, h2⟩ := h1
    have e1 := Nat.eq_of_beq_eq_true h1
    subst e1
    exact fun k => AW.istoreV_n hd (sy_int (Bool.and_eq_true_iff.mp h2).1) (Nat.blt_eq.mp (Bool.and_eq_true_iff.mp h2).2) k
  · cases h
theorem a2_lstore_n {l : aL} {g : aPg} {sc : aSc} {xs : Nat → Int32} {id pc len kc ks : Nat} {lv : List (Nat × Value)} {st : List Value} {sh : aH} {m : gM} {K : aK} {P : aP} {q : Fin 4} (G : pgOk g) (hG : ∀ G, l.2 G → scOk sc xs G) (hd : decode (iC (pI g id)) pc = .ok (.lstore_n q, len)) (h : a2 g sc id pc (.lstore_n q) len lv st sh m = some K) : a2G l g xs id P kc ks pc lv st sh m K := by
  simp only [a2] at h
  split at h
  · obtain ⟨h1, rfl⟩ := bif_some h
    rw [Bool.and_eq_true] at h1
    obtain ⟨h1, h2⟩ := h1
    have e1 := Nat.eq_of_beq_eq_true h1
    subst e1
    exact fun k => AW.lstore_n hd (Nat.blt_eq.mp h2) k
  · cases h
theorem a2_istore {l : aL} {g : aPg} {sc : aSc} {xs : Nat → Int32} {id pc len kc ks : Nat} {lv : List (Nat × Value)} {st : List Value} {sh : aH} {m : gM} {K : aK} {P : aP} {q : Nat} (G : pgOk g) (hG : ∀ G, l.2 G → scOk sc xs G) (hd : decode (iC (pI g id)) pc = .ok (.istore q, len)) (h : a2 g sc id pc (.istore q) len lv st sh m = some K) : a2G l g xs id P kc ks pc lv st sh m K := by
  simp only [a2] at h
  split at h
  · obtain ⟨h1, rfl⟩ := bif_some h
    rw [Bool.and_eq_true] at h1
    obtain ⟨h1, h2⟩ := h1
    have e1 := Nat.eq_of_beq_eq_true h1
    subst e1
    exact fun k => AW.istoreV hd (sy_int (Bool.and_eq_true_iff.mp h2).1) (Nat.blt_eq.mp (Bool.and_eq_true_iff.mp h2).2) k
  · cases h
theorem a2_lstore {l : aL} {g : aPg} {sc : aSc} {xs : Nat → Int32} {id pc len kc ks : Nat} {lv : List (Nat × Value)} {st : List Value} {sh : aH} {m : gM} {K : aK} {P : aP} {q : Nat} (G : pgOk g) (hG : ∀ G, l.2 G → scOk sc xs G) (hd : decode (iC (pI g id)) pc = .ok (.lstore q, len)) (h : a2 g sc id pc (.lstore q) len lv st sh m = some K) : a2G l g xs id P kc ks pc lv st sh m K := by
  simp only [a2] at h
  split at h
  · obtain ⟨h1, rfl⟩ := bif_some h
    rw [Bool.and_eq_true] at h1
    obtain ⟨h1, h2⟩ := h1
    have e1 := Nat.eq_of_beq_eq_true h1
    subst e1
    exact fun k => AW.lstore hd (Nat.blt_eq.mp h2) k
  · cases h
theorem a2_astore_n {l : aL} {g : aPg} {sc : aSc} {xs : Nat → Int32} {id pc len kc ks : Nat} {lv : List (Nat × Value)} {st : List Value} {sh : aH} {m : gM} {K : aK} {P : aP} {q : Fin 4} (G : pgOk g) (hG : ∀ G, l.2 G → scOk sc xs G) (hd : decode (iC (pI g id)) pc = .ok (.astore_n q, len)) (h : a2 g sc id pc (.astore_n q) len lv st sh m = some K) : a2G l g xs id P kc ks pc lv st sh m K := by
  simp only [a2] at h
  split at h
  · obtain ⟨h1, rfl⟩ := bif_some h
    rw [Bool.and_eq_true] at h1
    obtain ⟨h1, h2⟩ := h1
    have e1 := Nat.eq_of_beq_eq_true h1
    subst e1
    exact fun k => AW.astore_n hd (Bool.and_eq_true_iff.mp h2).1 (Nat.blt_eq.mp (Bool.and_eq_true_iff.mp h2).2) k
  · cases h
theorem a2_astore {l : aL} {g : aPg} {sc : aSc} {xs : Nat → Int32} {id pc len kc ks : Nat} {lv : List (Nat × Value)} {st : List Value} {sh : aH} {m : gM} {K : aK} {P : aP} {q : Nat} (G : pgOk g) (hG : ∀ G, l.2 G → scOk sc xs G) (hd : decode (iC (pI g id)) pc = .ok (.astore q, len)) (h : a2 g sc id pc (.astore q) len lv st sh m = some K) : a2G l g xs id P kc ks pc lv st sh m K := by
  simp only [a2] at h
  split at h
  · obtain ⟨h1, rfl⟩ := bif_some h
    rw [Bool.and_eq_true] at h1
    obtain ⟨h1, h2⟩ := h1
    have e1 := Nat.eq_of_beq_eq_true h1
    subst e1
    exact fun k => AW.astore hd (Bool.and_eq_true_iff.mp h2).1 (Nat.blt_eq.mp (Bool.and_eq_true_iff.mp h2).2) k
  · cases h
theorem a2_iinc {l : aL} {g : aPg} {sc : aSc} {xs : Nat → Int32} {id pc len kc ks : Nat} {lv : List (Nat × Value)} {st : List Value} {sh : aH} {m : gM} {K : aK} {P : aP} {q : Nat} {v : Int} (G : pgOk g) (hG : ∀ G, l.2 G → scOk sc xs G) (hd : decode (iC (pI g id)) pc = .ok (.iinc q v, len)) (h : a2 g sc id pc (.iinc q v) len lv st sh m = some K) : a2G l g xs id P kc ks pc lv st sh m K := by
  simp only [a2] at h
  split at h
  · next x he =>
      obtain ⟨h1, rfl⟩ := bif_some h
      rw [Bool.and_eq_true] at h1
      obtain ⟨h1, h2⟩ := h1
      have e1 := Nat.eq_of_beq_eq_true h1
      subst e1
      exact fun k => AW.iinc hd he (Nat.blt_eq.mp h2) k
  · cases h
theorem a2_iadd {l : aL} {g : aPg} {sc : aSc} {xs : Nat → Int32} {id pc len kc ks : Nat} {lv : List (Nat × Value)} {st : List Value} {sh : aH} {m : gM} {K : aK} {P : aP} (G : pgOk g) (hG : ∀ G, l.2 G → scOk sc xs G) (hd : decode (iC (pI g id)) pc = .ok (.iadd, len)) (h : a2 g sc id pc (.iadd) len lv st sh m = some K) : a2G l g xs id P kc ks pc lv st sh m K := by
  simp only [a2] at h
  split at h
  · obtain ⟨h1, rfl⟩ := bif_some h
    have e1 := Nat.eq_of_beq_eq_true h1
    subst e1
    exact fun k => AW.iadd hd k
  · cases h
theorem a2_isub {l : aL} {g : aPg} {sc : aSc} {xs : Nat → Int32} {id pc len kc ks : Nat} {lv : List (Nat × Value)} {st : List Value} {sh : aH} {m : gM} {K : aK} {P : aP} (G : pgOk g) (hG : ∀ G, l.2 G → scOk sc xs G) (hd : decode (iC (pI g id)) pc = .ok (.isub, len)) (h : a2 g sc id pc (.isub) len lv st sh m = some K) : a2G l g xs id P kc ks pc lv st sh m K := by
  simp only [a2] at h
  split at h
  · obtain ⟨h1, rfl⟩ := bif_some h
    have e1 := Nat.eq_of_beq_eq_true h1
    subst e1
    exact fun k => AW.isub hd k
  · cases h
theorem a2_imul {l : aL} {g : aPg} {sc : aSc} {xs : Nat → Int32} {id pc len kc ks : Nat} {lv : List (Nat × Value)} {st : List Value} {sh : aH} {m : gM} {K : aK} {P : aP} (G : pgOk g) (hG : ∀ G, l.2 G → scOk sc xs G) (hd : decode (iC (pI g id)) pc = .ok (.imul, len)) (h : a2 g sc id pc (.imul) len lv st sh m = some K) : a2G l g xs id P kc ks pc lv st sh m K := by
  simp only [a2] at h
  split at h
  · obtain ⟨h1, rfl⟩ := bif_some h
    have e1 := Nat.eq_of_beq_eq_true h1
    subst e1
    exact fun k => AW.imul hd k
  · cases h
theorem a2_ior {l : aL} {g : aPg} {sc : aSc} {xs : Nat → Int32} {id pc len kc ks : Nat} {lv : List (Nat × Value)} {st : List Value} {sh : aH} {m : gM} {K : aK} {P : aP} (G : pgOk g) (hG : ∀ G, l.2 G → scOk sc xs G) (hd : decode (iC (pI g id)) pc = .ok (.ior, len)) (h : a2 g sc id pc (.ior) len lv st sh m = some K) : a2G l g xs id P kc ks pc lv st sh m K := by
  simp only [a2] at h
  split at h
  · obtain ⟨h1, rfl⟩ := bif_some h
    have e1 := Nat.eq_of_beq_eq_true h1
    subst e1
    exact fun k => AW.ior hd k
  · cases h
theorem a2_ixor {l : aL} {g : aPg} {sc : aSc} {xs : Nat → Int32} {id pc len kc ks : Nat} {lv : List (Nat × Value)} {st : List Value} {sh : aH} {m : gM} {K : aK} {P : aP} (G : pgOk g) (hG : ∀ G, l.2 G → scOk sc xs G) (hd : decode (iC (pI g id)) pc = .ok (.ixor, len)) (h : a2 g sc id pc (.ixor) len lv st sh m = some K) : a2G l g xs id P kc ks pc lv st sh m K := by
  simp only [a2] at h
  split at h
  · obtain ⟨h1, rfl⟩ := bif_some h
    have e1 := Nat.eq_of_beq_eq_true h1
    subst e1
    exact fun k => AW.ixor hd k
  · cases h
theorem a2_ishl {l : aL} {g : aPg} {sc : aSc} {xs : Nat → Int32} {id pc len kc ks : Nat} {lv : List (Nat × Value)} {st : List Value} {sh : aH} {m : gM} {K : aK} {P : aP} (G : pgOk g) (hG : ∀ G, l.2 G → scOk sc xs G) (hd : decode (iC (pI g id)) pc = .ok (.ishl, len)) (h : a2 g sc id pc (.ishl) len lv st sh m = some K) : a2G l g xs id P kc ks pc lv st sh m K := by
  simp only [a2] at h
  split at h
  · obtain ⟨h1, rfl⟩ := bif_some h
    have e1 := Nat.eq_of_beq_eq_true h1
    subst e1
    exact fun k => AW.ishl hd k
  · cases h
theorem a2_iushr {l : aL} {g : aPg} {sc : aSc} {xs : Nat → Int32} {id pc len kc ks : Nat} {lv : List (Nat × Value)} {st : List Value} {sh : aH} {m : gM} {K : aK} {P : aP} (G : pgOk g) (hG : ∀ G, l.2 G → scOk sc xs G) (hd : decode (iC (pI g id)) pc = .ok (.iushr, len)) (h : a2 g sc id pc (.iushr) len lv st sh m = some K) : a2G l g xs id P kc ks pc lv st sh m K := by
  simp only [a2] at h
  split at h
  · obtain ⟨h1, rfl⟩ := bif_some h
    have e1 := Nat.eq_of_beq_eq_true h1
    subst e1
    exact fun k => AW.iushr hd k
  · cases h
theorem a2_idiv {l : aL} {g : aPg} {sc : aSc} {xs : Nat → Int32} {id pc len kc ks : Nat} {lv : List (Nat × Value)} {st : List Value} {sh : aH} {m : gM} {K : aK} {P : aP} (G : pgOk g) (hG : ∀ G, l.2 G → scOk sc xs G) (hd : decode (iC (pI g id)) pc = .ok (.idiv, len)) (h : a2 g sc id pc (.idiv) len lv st sh m = some K) : a2G l g xs id P kc ks pc lv st sh m K := by
  simp only [a2] at h
  split at h
  · obtain ⟨h1, rfl⟩ := bif_some h
    rw [Bool.and_eq_true] at h1
    obtain ⟨h1, h2⟩ := h1
    have e1 := Nat.eq_of_beq_eq_true h1
    subst e1
    exact fun k => AW.idiv hd (by simpa using h2) k
  · cases h
theorem a2_irem {l : aL} {g : aPg} {sc : aSc} {xs : Nat → Int32} {id pc len kc ks : Nat} {lv : List (Nat × Value)} {st : List Value} {sh : aH} {m : gM} {K : aK} {P : aP} (G : pgOk g) (hG : ∀ G, l.2 G → scOk sc xs G) (hd : decode (iC (pI g id)) pc = .ok (.irem, len)) (h : a2 g sc id pc (.irem) len lv st sh m = some K) : a2G l g xs id P kc ks pc lv st sh m K := by
  simp only [a2] at h
  split at h
  · obtain ⟨h1, rfl⟩ := bif_some h
    rw [Bool.and_eq_true] at h1
    obtain ⟨h1, h2⟩ := h1
    have e1 := Nat.eq_of_beq_eq_true h1
    subst e1
    exact fun k => AW.irem hd (by simpa using h2) k
  · cases h
theorem a2_ladd {l : aL} {g : aPg} {sc : aSc} {xs : Nat → Int32} {id pc len kc ks : Nat} {lv : List (Nat × Value)} {st : List Value} {sh : aH} {m : gM} {K : aK} {P : aP} (G : pgOk g) (hG : ∀ G, l.2 G → scOk sc xs G) (hd : decode (iC (pI g id)) pc = .ok (.ladd, len)) (h : a2 g sc id pc (.ladd) len lv st sh m = some K) : a2G l g xs id P kc ks pc lv st sh m K := by
  simp only [a2] at h
  split at h
  · obtain ⟨h1, rfl⟩ := bif_some h
    have e1 := Nat.eq_of_beq_eq_true h1
    subst e1
    exact fun k => AW.ladd hd k
  · cases h
theorem a2_lsub {l : aL} {g : aPg} {sc : aSc} {xs : Nat → Int32} {id pc len kc ks : Nat} {lv : List (Nat × Value)} {st : List Value} {sh : aH} {m : gM} {K : aK} {P : aP} (G : pgOk g) (hG : ∀ G, l.2 G → scOk sc xs G) (hd : decode (iC (pI g id)) pc = .ok (.lsub, len)) (h : a2 g sc id pc (.lsub) len lv st sh m = some K) : a2G l g xs id P kc ks pc lv st sh m K := by
  simp only [a2] at h
  split at h
  · obtain ⟨h1, rfl⟩ := bif_some h
    have e1 := Nat.eq_of_beq_eq_true h1
    subst e1
    exact fun k => AW.lsub hd k
  · cases h
theorem a2_lmul {l : aL} {g : aPg} {sc : aSc} {xs : Nat → Int32} {id pc len kc ks : Nat} {lv : List (Nat × Value)} {st : List Value} {sh : aH} {m : gM} {K : aK} {P : aP} (G : pgOk g) (hG : ∀ G, l.2 G → scOk sc xs G) (hd : decode (iC (pI g id)) pc = .ok (.lmul, len)) (h : a2 g sc id pc (.lmul) len lv st sh m = some K) : a2G l g xs id P kc ks pc lv st sh m K := by
  simp only [a2] at h
  split at h
  · obtain ⟨h1, rfl⟩ := bif_some h
    have e1 := Nat.eq_of_beq_eq_true h1
    subst e1
    exact fun k => AW.lmul hd k
  · cases h
theorem a2_land {l : aL} {g : aPg} {sc : aSc} {xs : Nat → Int32} {id pc len kc ks : Nat} {lv : List (Nat × Value)} {st : List Value} {sh : aH} {m : gM} {K : aK} {P : aP} (G : pgOk g) (hG : ∀ G, l.2 G → scOk sc xs G) (hd : decode (iC (pI g id)) pc = .ok (.land, len)) (h : a2 g sc id pc (.land) len lv st sh m = some K) : a2G l g xs id P kc ks pc lv st sh m K := by
  simp only [a2] at h
  split at h
  · obtain ⟨h1, rfl⟩ := bif_some h
    have e1 := Nat.eq_of_beq_eq_true h1
    subst e1
    exact fun k => AW.land hd k
  · cases h
theorem a2_lor {l : aL} {g : aPg} {sc : aSc} {xs : Nat → Int32} {id pc len kc ks : Nat} {lv : List (Nat × Value)} {st : List Value} {sh : aH} {m : gM} {K : aK} {P : aP} (G : pgOk g) (hG : ∀ G, l.2 G → scOk sc xs G) (hd : decode (iC (pI g id)) pc = .ok (.lor, len)) (h : a2 g sc id pc (.lor) len lv st sh m = some K) : a2G l g xs id P kc ks pc lv st sh m K := by
  simp only [a2] at h
  split at h
  · obtain ⟨h1, rfl⟩ := bif_some h
    have e1 := Nat.eq_of_beq_eq_true h1
    subst e1
    exact fun k => AW.lor hd k
  · cases h
theorem a2_ldiv {l : aL} {g : aPg} {sc : aSc} {xs : Nat → Int32} {id pc len kc ks : Nat} {lv : List (Nat × Value)} {st : List Value} {sh : aH} {m : gM} {K : aK} {P : aP} (G : pgOk g) (hG : ∀ G, l.2 G → scOk sc xs G) (hd : decode (iC (pI g id)) pc = .ok (.ldiv, len)) (h : a2 g sc id pc (.ldiv) len lv st sh m = some K) : a2G l g xs id P kc ks pc lv st sh m K := by
  simp only [a2] at h
  split at h
  · obtain ⟨h1, rfl⟩ := bif_some h
    rw [Bool.and_eq_true] at h1
    obtain ⟨h1, h2⟩ := h1
    have e1 := Nat.eq_of_beq_eq_true h1
    subst e1
    exact fun k => AW.ldiv hd (by simpa using h2) k
  · cases h
theorem a2_lcmp {l : aL} {g : aPg} {sc : aSc} {xs : Nat → Int32} {id pc len kc ks : Nat} {lv : List (Nat × Value)} {st : List Value} {sh : aH} {m : gM} {K : aK} {P : aP} (G : pgOk g) (hG : ∀ G, l.2 G → scOk sc xs G) (hd : decode (iC (pI g id)) pc = .ok (.lcmp, len)) (h : a2 g sc id pc (.lcmp) len lv st sh m = some K) : a2G l g xs id P kc ks pc lv st sh m K := by
  simp only [a2] at h
  split at h
  · obtain ⟨h1, rfl⟩ := bif_some h
    have e1 := Nat.eq_of_beq_eq_true h1
    subst e1
    exact fun k => AW.lcmp hd k
  · cases h
theorem a2_lshl {l : aL} {g : aPg} {sc : aSc} {xs : Nat → Int32} {id pc len kc ks : Nat} {lv : List (Nat × Value)} {st : List Value} {sh : aH} {m : gM} {K : aK} {P : aP} (G : pgOk g) (hG : ∀ G, l.2 G → scOk sc xs G) (hd : decode (iC (pI g id)) pc = .ok (.lshl, len)) (h : a2 g sc id pc (.lshl) len lv st sh m = some K) : a2G l g xs id P kc ks pc lv st sh m K := by
  simp only [a2] at h
  split at h
  · obtain ⟨h1, rfl⟩ := bif_some h
    have e1 := Nat.eq_of_beq_eq_true h1
    subst e1
    exact fun k => AW.lshl hd k
  · cases h
theorem a2_lshr {l : aL} {g : aPg} {sc : aSc} {xs : Nat → Int32} {id pc len kc ks : Nat} {lv : List (Nat × Value)} {st : List Value} {sh : aH} {m : gM} {K : aK} {P : aP} (G : pgOk g) (hG : ∀ G, l.2 G → scOk sc xs G) (hd : decode (iC (pI g id)) pc = .ok (.lshr, len)) (h : a2 g sc id pc (.lshr) len lv st sh m = some K) : a2G l g xs id P kc ks pc lv st sh m K := by
  simp only [a2] at h
  split at h
  · obtain ⟨h1, rfl⟩ := bif_some h
    have e1 := Nat.eq_of_beq_eq_true h1
    subst e1
    exact fun k => AW.lshr hd k
  · cases h
theorem a2_lushr {l : aL} {g : aPg} {sc : aSc} {xs : Nat → Int32} {id pc len kc ks : Nat} {lv : List (Nat × Value)} {st : List Value} {sh : aH} {m : gM} {K : aK} {P : aP} (G : pgOk g) (hG : ∀ G, l.2 G → scOk sc xs G) (hd : decode (iC (pI g id)) pc = .ok (.lushr, len)) (h : a2 g sc id pc (.lushr) len lv st sh m = some K) : a2G l g xs id P kc ks pc lv st sh m K := by
  simp only [a2] at h
  split at h
  · obtain ⟨h1, rfl⟩ := bif_some h
    have e1 := Nat.eq_of_beq_eq_true h1
    subst e1
    exact fun k => AW.lushr hd k
  · cases h
theorem a2_i2l {l : aL} {g : aPg} {sc : aSc} {xs : Nat → Int32} {id pc len kc ks : Nat} {lv : List (Nat × Value)} {st : List Value} {sh : aH} {m : gM} {K : aK} {P : aP} (G : pgOk g) (hG : ∀ G, l.2 G → scOk sc xs G) (hd : decode (iC (pI g id)) pc = .ok (.i2l, len)) (h : a2 g sc id pc (.i2l) len lv st sh m = some K) : a2G l g xs id P kc ks pc lv st sh m K := by
  simp only [a2] at h
  split at h
  · obtain ⟨h1, rfl⟩ := bif_some h
    have e1 := Nat.eq_of_beq_eq_true h1
    subst e1
    exact fun k => AW.i2l hd k
  · cases h
theorem a2_l2i {l : aL} {g : aPg} {sc : aSc} {xs : Nat → Int32} {id pc len kc ks : Nat} {lv : List (Nat × Value)} {st : List Value} {sh : aH} {m : gM} {K : aK} {P : aP} (G : pgOk g) (hG : ∀ G, l.2 G → scOk sc xs G) (hd : decode (iC (pI g id)) pc = .ok (.l2i, len)) (h : a2 g sc id pc (.l2i) len lv st sh m = some K) : a2G l g xs id P kc ks pc lv st sh m K := by
  simp only [a2] at h
  split at h
  · obtain ⟨h1, rfl⟩ := bif_some h
    have e1 := Nat.eq_of_beq_eq_true h1
    subst e1
    exact fun k => AW.l2i hd k
  · cases h
theorem a2_iand {l : aL} {g : aPg} {sc : aSc} {xs : Nat → Int32} {id pc len kc ks : Nat} {lv : List (Nat × Value)} {st : List Value} {sh : aH} {m : gM} {K : aK} {P : aP} (G : pgOk g) (hG : ∀ G, l.2 G → scOk sc xs G) (hd : decode (iC (pI g id)) pc = .ok (.iand, len)) (h : a2 g sc id pc (.iand) len lv st sh m = some K) : a2G l g xs id P kc ks pc lv st sh m K := by
  simp only [a2] at h
  split at h
  · next y x st =>
      cases hb : (Nat.beq len 1 && true) with
      | true =>
        rw [hb] at h
        simp only [cond_true] at h
        cases h
        rw [Bool.and_eq_true] at hb
        have e1 := Nat.eq_of_beq_eq_true hb.1
        subst e1
        have h2 := hb.2
        exact fun k => AW.iand hd k
      | false =>
        rw [hb] at h
        simp only [cond_false] at h
        cases h
  · next y u st =>
      cases hb : (Nat.beq len 1 && (okU u && decide (y = -1))) with
      | true =>
        rw [hb] at h
        simp only [cond_true] at h
        cases h
        rw [Bool.and_eq_true] at hb
        have e1 := Nat.eq_of_beq_eq_true hb.1
        subst e1
        have h2 := hb.2
        rw [Bool.and_eq_true, decide_eq_true_eq] at h2
        intro k
        rw [h2.2]
        refine AW.fI2 hG h2.1 (AW.iand hd ?_)
        rw [and_m1]
        exact AW.If hG h2.1 k
      | false =>
        rw [hb] at h
        simp only [cond_false] at h
        cases hb : (Nat.beq len 1 && (okU u && (decide (y = 255) && Nat.beq (u.toNat / 256) 1))) with
        | true =>
          rw [hb] at h
          simp only [cond_true] at h
          cases h
          rw [Bool.and_eq_true] at hb
          have e1 := Nat.eq_of_beq_eq_true hb.1
          subst e1
          have h2 := hb.2
          rw [Bool.and_eq_true, Bool.and_eq_true, decide_eq_true_eq] at h2
          intro k
          rw [h2.2.1]
          refine AW.fI2 hG h2.1 (AW.iand hd ?_)
          rw [← ev3 xs h2.1 h2.2.2]
          exact AW.If hG (okU3 h2.1 h2.2.2) k
        | false =>
          rw [hb] at h
          simp only [cond_false] at h
          cases hb : (Nat.beq len 1 && (okU u && (lkB sc.2.2.2 u y).isSome)) with
          | true =>
            rw [hb] at h
            simp only [cond_true] at h
            cases h
            rw [Bool.and_eq_true] at hb
            have e1 := Nat.eq_of_beq_eq_true hb.1
            subst e1
            have h2 := hb.2
            rw [Bool.and_eq_true] at h2
            obtain ⟨z, hz⟩ := Option.isSome_iff_exists.mp h2.2
            intro k
            rw [hz, Option.getD_some] at k
            refine AW.fI2 hG h2.1 (AW.iand hd ?_)
            refine AW.cast (fun G hΓ => ⟨rfl, map_top ?_⟩) k
            exact congrArg (fun z => cv G (.int z)) ((hG G hΓ).2.2.2.2 _ (lkB_mem hz))
          | false =>
            rw [hb] at h
            simp only [cond_false] at h
            cases h
  · cases h
theorem a2_ishr {l : aL} {g : aPg} {sc : aSc} {xs : Nat → Int32} {id pc len kc ks : Nat} {lv : List (Nat × Value)} {st : List Value} {sh : aH} {m : gM} {K : aK} {P : aP} (G : pgOk g) (hG : ∀ G, l.2 G → scOk sc xs G) (hd : decode (iC (pI g id)) pc = .ok (.ishr, len)) (h : a2 g sc id pc (.ishr) len lv st sh m = some K) : a2G l g xs id P kc ks pc lv st sh m K := by
  simp only [a2] at h
  split at h
  · next y x st =>
      cases hb : (Nat.beq len 1 && true) with
      | true =>
        rw [hb] at h
        simp only [cond_true] at h
        cases h
        rw [Bool.and_eq_true] at hb
        have e1 := Nat.eq_of_beq_eq_true hb.1
        subst e1
        have h2 := hb.2
        exact fun k => AW.ishr hd k
      | false =>
        rw [hb] at h
        simp only [cond_false] at h
        cases h
  · next y u st =>
      cases hb : (Nat.beq len 1 && (Nat.blt u.toNat 8 && (Nat.blt y.toNatClampNeg 32 && decide (y = Int32.ofNat y.toNatClampNeg)))) with
      | true =>
        rw [hb] at h
        simp only [cond_true] at h
        cases h
        rw [Bool.and_eq_true] at hb
        have e1 := Nat.eq_of_beq_eq_true hb.1
        subst e1
        have h2 := hb.2
        rw [Bool.and_eq_true, Bool.and_eq_true, decide_eq_true_eq] at h2
        intro k
        refine AW.fI2 hG (okU0 h2.1) (AW.ishr hd ?_)
        rw [← ev1 xs h2.1 h2.2.1 h2.2.2]
        exact AW.If hG (okU1 h2.1 h2.2.1) k
      | false =>
        rw [hb] at h
        simp only [cond_false] at h
        cases h
  · cases h
theorem a2_i2b {l : aL} {g : aPg} {sc : aSc} {xs : Nat → Int32} {id pc len kc ks : Nat} {lv : List (Nat × Value)} {st : List Value} {sh : aH} {m : gM} {K : aK} {P : aP} (G : pgOk g) (hG : ∀ G, l.2 G → scOk sc xs G) (hd : decode (iC (pI g id)) pc = .ok (.i2b, len)) (h : a2 g sc id pc (.i2b) len lv st sh m = some K) : a2G l g xs id P kc ks pc lv st sh m K := by
  simp only [a2] at h
  split at h
  · next x st =>
      cases hb : (Nat.beq len 1 && true) with
      | true =>
        rw [hb] at h
        simp only [cond_true] at h
        cases h
        rw [Bool.and_eq_true] at hb
        have e1 := Nat.eq_of_beq_eq_true hb.1
        subst e1
        have h2 := hb.2
        exact fun k => AW.i2b hd k
      | false =>
        rw [hb] at h
        simp only [cond_false] at h
        cases h
  · next u st =>
      cases hb : (Nat.beq len 1 && (okU u && Nat.beq (u.toNat / 256) 1)) with
      | true =>
        rw [hb] at h
        simp only [cond_true] at h
        cases h
        rw [Bool.and_eq_true] at hb
        have e1 := Nat.eq_of_beq_eq_true hb.1
        subst e1
        have h2 := hb.2
        rw [Bool.and_eq_true] at h2
        intro k
        refine AW.fI hG h2.1 (AW.i2b hd ?_)
        rw [← ev2 xs h2.1 h2.2]
        exact AW.If hG (okU2 h2.1 h2.2) k
      | false =>
        rw [hb] at h
        simp only [cond_false] at h
        cases h
  · cases h
theorem a2_i2c {l : aL} {g : aPg} {sc : aSc} {xs : Nat → Int32} {id pc len kc ks : Nat} {lv : List (Nat × Value)} {st : List Value} {sh : aH} {m : gM} {K : aK} {P : aP} (G : pgOk g) (hG : ∀ G, l.2 G → scOk sc xs G) (hd : decode (iC (pI g id)) pc = .ok (.i2c, len)) (h : a2 g sc id pc (.i2c) len lv st sh m = some K) : a2G l g xs id P kc ks pc lv st sh m K := by
  simp only [a2] at h
  split at h
  · obtain ⟨h1, rfl⟩ := bif_some h
    have e1 := Nat.eq_of_beq_eq_true h1
    subst e1
    exact fun k => AW.i2c hd k
  · cases h
theorem a2_dup {l : aL} {g : aPg} {sc : aSc} {xs : Nat → Int32} {id pc len kc ks : Nat} {lv : List (Nat × Value)} {st : List Value} {sh : aH} {m : gM} {K : aK} {P : aP} (G : pgOk g) (hG : ∀ G, l.2 G → scOk sc xs G) (hd : decode (iC (pI g id)) pc = .ok (.dup, len)) (h : a2 g sc id pc (.dup) len lv st sh m = some K) : a2G l g xs id P kc ks pc lv st sh m K := by
  simp only [a2] at h
  split at h
  · obtain ⟨h1, rfl⟩ := bif_some h
    rw [Bool.and_eq_true] at h1
    obtain ⟨h1, h2⟩ := h1
    have e1 := Nat.eq_of_beq_eq_true h1
    subst e1
    exact fun k => AW.dup hd (Nat.eq_of_beq_eq_true h2) k
  · cases h
theorem a2_pop {l : aL} {g : aPg} {sc : aSc} {xs : Nat → Int32} {id pc len kc ks : Nat} {lv : List (Nat × Value)} {st : List Value} {sh : aH} {m : gM} {K : aK} {P : aP} (G : pgOk g) (hG : ∀ G, l.2 G → scOk sc xs G) (hd : decode (iC (pI g id)) pc = .ok (.pop, len)) (h : a2 g sc id pc (.pop) len lv st sh m = some K) : a2G l g xs id P kc ks pc lv st sh m K := by
  simp only [a2] at h
  split at h
  · obtain ⟨h1, rfl⟩ := bif_some h
    rw [Bool.and_eq_true] at h1
    obtain ⟨h1, h2⟩ := h1
    have e1 := Nat.eq_of_beq_eq_true h1
    subst e1
    exact fun k => AW.pop hd (Nat.eq_of_beq_eq_true h2) k
  · cases h
theorem a2_dup2 {l : aL} {g : aPg} {sc : aSc} {xs : Nat → Int32} {id pc len kc ks : Nat} {lv : List (Nat × Value)} {st : List Value} {sh : aH} {m : gM} {K : aK} {P : aP} (G : pgOk g) (hG : ∀ G, l.2 G → scOk sc xs G) (hd : decode (iC (pI g id)) pc = .ok (.dup2, len)) (h : a2 g sc id pc (.dup2) len lv st sh m = some K) : a2G l g xs id P kc ks pc lv st sh m K := by
  simp only [a2] at h
  split at h
  · obtain ⟨h1, rfl⟩ := bif_some h
    rw [Bool.and_eq_true] at h1
    obtain ⟨h1, h2⟩ := h1
    have e1 := Nat.eq_of_beq_eq_true h1
    subst e1
    exact fun k => AW.dup2_11 hd (Nat.eq_of_beq_eq_true (Bool.and_eq_true_iff.mp h2).1) (Nat.eq_of_beq_eq_true (Bool.and_eq_true_iff.mp h2).2) k
  · cases h
theorem a2_if_icmp {l : aL} {g : aPg} {sc : aSc} {xs : Nat → Int32} {id pc len kc ks : Nat} {lv : List (Nat × Value)} {st : List Value} {sh : aH} {m : gM} {K : aK} {P : aP} {c : _root_.Jvm.ClassFile.Cond} {off : Int} (G : pgOk g) (hG : ∀ G, l.2 G → scOk sc xs G) (hd : decode (iC (pI g id)) pc = .ok (.if_icmp c off, len)) (h : a2 g sc id pc (.if_icmp c off) len lv st sh m = some K) : a2G l g xs id P kc ks pc lv st sh m K := by
  simp only [a2] at h
  split at h
  · obtain ⟨h1, h⟩ := bif_some2 h
    have e1 := Nat.eq_of_beq_eq_true h1
    subst e1
    split at h
    · next t ht =>
        cases h
        intro k
        have ht := tgt_spec ht
        cases c <;> simp only [brI] at k
        · exact AW.icmp_eq hd ht (fun hc => by simpa [hc] using k) (fun hc => by simpa [hc] using k)
        · exact AW.icmp_ne hd ht (fun hc => by simpa [hc] using k) (fun hc => by simpa [hc] using k)
        · exact AW.icmp_lt hd ht (fun hc => by simpa [hc] using k) (fun hc => by simpa [hc] using k)
        · exact AW.icmp_ge hd ht (fun hc => by simpa [hc] using k) (fun hc => by simpa [hc] using k)
        · exact AW.icmp_gt hd ht (fun hc => by simpa [hc] using k) (fun hc => by simpa [hc] using k)
        · exact AW.icmp_le hd ht (fun hc => by simpa [hc] using k) (fun hc => by simpa [hc] using k)
    · cases h
  · replace h := bif_some2 h
    obtain ⟨h1, h⟩ := h
    rw [Bool.and_eq_true] at h1
    obtain ⟨h1, h2⟩ := h1
    have e1 := Nat.eq_of_beq_eq_true h1
    subst e1
    split at h
    · next b hb =>
        split at h
        · next t ht =>
            cases h
            intro k
            have ht := tgt_spec ht
            obtain ⟨G0, hG0⟩ | hno := Classical.em (∃ G, l.2 G)
            · have hf := (hG G0 hG0).2.2.2.1 _ (lkC_mem hb)
              refine AW.fI2 hG h2 ?_
              simp only at hf
              subst hf
              cases c <;> simp only [brI] at k
              · exact AW.icmp_eq hd ht (fun hc => by simpa [hc] using k) (fun hc => by simpa [hc] using k)
              · exact AW.icmp_ne hd ht (fun hc => by simpa [hc] using k) (fun hc => by simpa [hc] using k)
              · exact AW.icmp_lt hd ht (fun hc => by simpa [hc] using k) (fun hc => by simpa [hc] using k)
              · exact AW.icmp_ge hd ht (fun hc => by simpa [hc] using k) (fun hc => by simpa [hc] using k)
              · exact AW.icmp_gt hd ht (fun hc => by simpa [hc] using k) (fun hc => by simpa [hc] using k)
              · exact AW.icmp_le hd ht (fun hc => by simpa [hc] using k) (fun hc => by simpa [hc] using k)
            · intro p e s mm args below meth cc G H locs cells slots ls KC KS C E
              exact absurd ⟨G, E.2⟩ hno
        · cases h
    · cases h
  · cases h
theorem a2_ifCond {l : aL} {g : aPg} {sc : aSc} {xs : Nat → Int32} {id pc len kc ks : Nat} {lv : List (Nat × Value)} {st : List Value} {sh : aH} {m : gM} {K : aK} {P : aP} {c : _root_.Jvm.ClassFile.Cond} {off : Int} (G : pgOk g) (hG : ∀ G, l.2 G → scOk sc xs G) (hd : decode (iC (pI g id)) pc = .ok (.ifCond c off, len)) (h : a2 g sc id pc (.ifCond c off) len lv st sh m = some K) : a2G l g xs id P kc ks pc lv st sh m K := by
  simp only [a2] at h
  split at h
  · obtain ⟨h1, h⟩ := bif_some2 h
    have e1 := Nat.eq_of_beq_eq_true h1
    subst e1
    split at h
    · next t ht =>
        cases h
        intro k
        have ht := tgt_spec ht
        cases c <;> simp only [brI] at k
        · exact AW.if_eq hd ht (fun hc => by simpa [hc] using k) (fun hc => by simpa [hc] using k)
        · exact AW.if_ne hd ht (fun hc => by simpa [hc] using k) (fun hc => by simpa [hc] using k)
        · exact AW.if_lt hd ht (fun hc => by simpa [hc] using k) (fun hc => by simpa [hc] using k)
        · exact AW.if_ge hd ht (fun hc => by simpa [hc] using k) (fun hc => by simpa [hc] using k)
        · exact AW.if_gt hd ht (fun hc => by simpa [hc] using k) (fun hc => by simpa [hc] using k)
        · exact AW.if_le hd ht (fun hc => by simpa [hc] using k) (fun hc => by simpa [hc] using k)
    · cases h
  · replace h := bif_some2 h
    obtain ⟨h1, h⟩ := h
    rw [Bool.and_eq_true] at h1
    obtain ⟨h1, h2⟩ := h1
    have e1 := Nat.eq_of_beq_eq_true h1
    subst e1
    split at h
    · next b hb =>
        split at h
        · next t ht =>
            cases h
            intro k
            have ht := tgt_spec ht
            obtain ⟨G0, hG0⟩ | hno := Classical.em (∃ G, l.2 G)
            · have hf := (hG G0 hG0).2.2.2.1 _ (lkC_mem hb)
              refine AW.fI hG h2 ?_
              simp only at hf
              subst hf
              cases c <;> simp only [brI] at k
              · exact AW.if_eq hd ht (fun hc => by simpa [hc] using k) (fun hc => by simpa [hc] using k)
              · exact AW.if_ne hd ht (fun hc => by simpa [hc] using k) (fun hc => by simpa [hc] using k)
              · exact AW.if_lt hd ht (fun hc => by simpa [hc] using k) (fun hc => by simpa [hc] using k)
              · exact AW.if_ge hd ht (fun hc => by simpa [hc] using k) (fun hc => by simpa [hc] using k)
              · exact AW.if_gt hd ht (fun hc => by simpa [hc] using k) (fun hc => by simpa [hc] using k)
              · exact AW.if_le hd ht (fun hc => by simpa [hc] using k) (fun hc => by simpa [hc] using k)
            · intro p e s mm args below meth cc G H locs cells slots ls KC KS C E
              exact absurd ⟨G, E.2⟩ hno
        · cases h
    · cases h
  · cases h
theorem a2_goto {l : aL} {g : aPg} {sc : aSc} {xs : Nat → Int32} {id pc len kc ks : Nat} {lv : List (Nat × Value)} {st : List Value} {sh : aH} {m : gM} {K : aK} {P : aP} {off : Int} (G : pgOk g) (hG : ∀ G, l.2 G → scOk sc xs G) (hd : decode (iC (pI g id)) pc = .ok (.goto off, len)) (h : a2 g sc id pc (.goto off) len lv st sh m = some K) : a2G l g xs id P kc ks pc lv st sh m K := by
  simp only [a2] at h
  obtain ⟨h1, h⟩ := bif_some2 h
  have e1 := Nat.eq_of_beq_eq_true h1
  subst e1
  split at h
  · next t ht =>
      cases h
      exact fun k => AW.goto hd (tgt_spec ht) k
  · cases h
theorem a2_tableswitch {l : aL} {g : aPg} {sc : aSc} {xs : Nat → Int32} {id pc len kc ks : Nat} {lv : List (Nat × Value)} {st : List Value} {sh : aH} {m : gM} {K : aK} {P : aP} {dflt lo hi : Int} {offs : Array Int} (G : pgOk g) (hG : ∀ G, l.2 G → scOk sc xs G) (hd : decode (iC (pI g id)) pc = .ok (.tableswitch dflt lo hi offs, len)) (h : a2 g sc id pc (.tableswitch dflt lo hi offs) len lv st sh m = some K) : a2G l g xs id P kc ks pc lv st sh m K := by
  simp only [a2] at h
  split at h
  · next x st =>
      cases hb : (decide (x.toInt < lo) || decide (hi < x.toInt)) with
      | true =>
        rw [hb] at h
        simp only [cond_true] at h
        split at h
        · next t ht =>
            cases h
            exact fun k => AW.tableOut hd (by simpa using hb) (tgt_spec ht) k
        · cases h
      | false =>
        rw [hb] at h
        simp only [cond_false] at h
        simp only [Bool.or_eq_false_iff, decide_eq_false_iff_not] at hb
        split at h
        · next off ho =>
            split at h
            · next t ht =>
                cases h
                exact fun k => AW.tableIn hd hb.1 hb.2 ho (tgt_spec ht) k
            · cases h
        · cases h
  · next u st =>
      replace h := bif_some2 h
      obtain ⟨h1, h⟩ := h
      rw [Bool.and_eq_true, Bool.or_eq_true] at h1
      obtain ⟨h1, h2⟩ := h1
      split at h
      · next t ht =>
          cases h
          intro k
          refine AW.fI hG h1 ?_
          obtain ⟨G0, hG0⟩ | hno := Classical.em (∃ G, l.2 G)
          · refine AW.tableOut hd ?_ (tgt_spec ht) k
            have hf := (hG G0 hG0).2.2.2.1
            rcases h2 with h2 | h2
            · split at h2
              · next b hb =>
                  rw [Bool.and_eq_true, decide_eq_true_eq] at h2
                  have h3 := hf _ (lkC_mem hb)
                  simp only [brI, h2.1, decide_eq_true_eq] at h3
                  exact Or.inl (by rw [← h2.2]; exact Int32.lt_iff_toInt_lt.mp h3)
              · cases h2
            · split at h2
              · next b hb =>
                  rw [Bool.and_eq_true, decide_eq_true_eq] at h2
                  have h3 := hf _ (lkC_mem hb)
                  simp only [brI, h2.1, decide_eq_true_eq] at h3
                  exact Or.inr (by rw [← h2.2]; exact Int32.lt_iff_toInt_lt.mp h3)
              · cases h2
          · intro p e s mm args below meth cc G H locs cells slots ls KC KS C E
            exact absurd ⟨G, E.2⟩ hno
      · cases h
  · cases h
theorem a2_ldc {l : aL} {g : aPg} {sc : aSc} {xs : Nat → Int32} {id pc len kc ks : Nat} {lv : List (Nat × Value)} {st : List Value} {sh : aH} {m : gM} {K : aK} {P : aP} {q : Nat} (G : pgOk g) (hG : ∀ G, l.2 G → scOk sc xs G) (hd : decode (iC (pI g id)) pc = .ok (.ldc q, len)) (h : a2 g sc id pc (.ldc q) len lv st sh m = some K) : a2G l g xs id P kc ks pc lv st sh m K := by
  simp only [a2] at h
  split at h
  · next v he =>
      obtain ⟨h1, rfl⟩ := bif_some h
      have e1 := Nat.eq_of_beq_eq_true h1
      subst e1
      exact fun k => AW.ldc hd (G.2.2.2.2.1 _ _ _ he) k
  · cases h
theorem a2_ldc_w {l : aL} {g : aPg} {sc : aSc} {xs : Nat → Int32} {id pc len kc ks : Nat} {lv : List (Nat × Value)} {st : List Value} {sh : aH} {m : gM} {K : aK} {P : aP} {q : Nat} (G : pgOk g) (hG : ∀ G, l.2 G → scOk sc xs G) (hd : decode (iC (pI g id)) pc = .ok (.ldc_w q, len)) (h : a2 g sc id pc (.ldc_w q) len lv st sh m = some K) : a2G l g xs id P kc ks pc lv st sh m K := by
  simp only [a2] at h
  split at h
  · next v he =>
      obtain ⟨h1, rfl⟩ := bif_some h
      have e1 := Nat.eq_of_beq_eq_true h1
      subst e1
      exact fun k => AW.ldcw hd (G.2.2.2.2.1 _ _ _ he) k
  · cases h
theorem a2_ldc2_w {l : aL} {g : aPg} {sc : aSc} {xs : Nat → Int32} {id pc len kc ks : Nat} {lv : List (Nat × Value)} {st : List Value} {sh : aH} {m : gM} {K : aK} {P : aP} {q : Nat} (G : pgOk g) (hG : ∀ G, l.2 G → scOk sc xs G) (hd : decode (iC (pI g id)) pc = .ok (.ldc2_w q, len)) (h : a2 g sc id pc (.ldc2_w q) len lv st sh m = some K) : a2G l g xs id P kc ks pc lv st sh m K := by
  simp only [a2] at h
  split at h
  · next v he =>
      obtain ⟨h1, rfl⟩ := bif_some h
      have e1 := Nat.eq_of_beq_eq_true h1
      subst e1
      exact fun k => AW.ldc2 hd (G.2.2.2.2.2.1 _ _ _ he) k
  · cases h
theorem a2_getfield {l : aL} {g : aPg} {sc : aSc} {xs : Nat → Int32} {id pc len kc ks : Nat} {lv : List (Nat × Value)} {st : List Value} {sh : aH} {m : gM} {K : aK} {P : aP} {q : Nat} (G : pgOk g) (hG : ∀ G, l.2 G → scOk sc xs G) (hd : decode (iC (pI g id)) pc = .ok (.getfield q, len)) (h : a2 g sc id pc (.getfield q) len lv st sh m = some K) : a2G l g xs id P kc ks pc lv st sh m K := by
  simp only [a2] at h
  split at h
  · split at h
    · next ci f b he =>
        obtain ⟨h1, rfl⟩ := bif_some h
        rw [Bool.and_eq_true, Bool.and_eq_true] at h1
        obtain ⟨h1, h2, h3⟩ := h1
        have e1 := Nat.eq_of_beq_eq_true h1
        subst e1
        obtain ⟨w, q1, q2, q3, q4, -⟩ := G.2.1 _ _ _ _ _ he
        exact fun k => AW.getf hd (shO_spec h2) q1 q2 q3 q4 rfl (AW.cast (fun G hΓ => ⟨rfl, map_top (rdO_spec (hG G hΓ).1 h3)⟩) k)
    · cases h
  · cases h
theorem a2_putfield {l : aL} {g : aPg} {sc : aSc} {xs : Nat → Int32} {id pc len kc ks : Nat} {lv : List (Nat × Value)} {st : List Value} {sh : aH} {m : gM} {K : aK} {P : aP} {q : Nat} (G : pgOk g) (hG : ∀ G, l.2 G → scOk sc xs G) (hd : decode (iC (pI g id)) pc = .ok (.putfield q, len)) (h : a2 g sc id pc (.putfield q) len lv st sh m = some K) : a2G l g xs id P kc ks pc lv st sh m K := by
  simp only [a2] at h
  split at h
  · next v j st =>
      split at h
      · next ci f b he =>
          obtain ⟨h1, rfl⟩ := bif_some h
          rw [Bool.and_eq_true, Bool.and_eq_true, Bool.and_eq_true] at h1
          obtain ⟨h1, h2, h3, h4⟩ := h1
          have e1 := Nat.eq_of_beq_eq_true h1
          subst e1
          obtain ⟨w, q1, q2, q3, q4, q5, q6⟩ := G.2.1 _ _ _ _ _ he
          have hfin : (w.2.1 f).2.2.2 = false ∨ ((iY (pI g id)).name = "<init>" ∧ (w.2.1 f).1 = iO (pI g id)) := by
            rw [Bool.or_eq_true, Bool.and_eq_true] at h4
            rcases h4 with h4 | ⟨h4, h5⟩
            · exact Or.inl (q5 (Nat.eq_of_beq_eq_true h4))
            · exact Or.inr ⟨G.2.2.2.2.2.2.1 id h5, q6 (Nat.eq_of_beq_eq_true h4)⟩
          intro k
          rw [den_gset (vok_gO h3)] at k
          obtain ⟨v1, v2, v3⟩ := vok_spec xs h3
          exact AW.cast (fun G hΓ => ⟨rfl, map_top (un_cv (hG G hΓ).1 v)⟩) (AW.putf hd (shO_spec h2) q1 q2 q3 q4 hfin v1 v2 v3 k)
      · cases h
  · cases h
theorem a2_iaload {l : aL} {g : aPg} {sc : aSc} {xs : Nat → Int32} {id pc len kc ks : Nat} {lv : List (Nat × Value)} {st : List Value} {sh : aH} {m : gM} {K : aK} {P : aP} (G : pgOk g) (hG : ∀ G, l.2 G → scOk sc xs G) (hd : decode (iC (pI g id)) pc = .ok (.iaload, len)) (h : a2 g sc id pc (.iaload) len lv st sh m = some K) : a2G l g xs id P kc ks pc lv st sh m K := by
  simp only [a2] at h
  split at h
  · split at h
    · next n he =>
        obtain ⟨h1, rfl⟩ := bif_some h
        rw [Bool.and_eq_true, Bool.and_eq_true] at h1
        obtain ⟨h1, h2, h3⟩ := h1
        have e1 := Nat.eq_of_beq_eq_true h1
        subst e1
        exact fun k => AW.iald hd (shA_spec he) (inB_spec h2) (AW.cast (fun G hΓ => ⟨rfl, map_top (sy_den (hG G hΓ).1 h3)⟩) k)
    · cases h
  · split at h
    · next L he =>
        obtain ⟨h1, rfl⟩ := bif_some h
        rw [Bool.and_eq_true, Bool.and_eq_true] at h1
        obtain ⟨h1, h2, h3⟩ := h1
        have e1 := Nat.eq_of_beq_eq_true h1
        subst e1
        refine fun k => AW.sld hG hd he (inB_spec h2) (AW.cast (fun G hΓ => ⟨rfl, map_top ?_⟩) k)
        split
        · next y hy => rw [(hG G hΓ).2.2.1 _ _ hy]
        · exact (ev0 (hG G hΓ).1 h3).symm
    · cases h
  · cases h
theorem a2_baload {l : aL} {g : aPg} {sc : aSc} {xs : Nat → Int32} {id pc len kc ks : Nat} {lv : List (Nat × Value)} {st : List Value} {sh : aH} {m : gM} {K : aK} {P : aP} (G : pgOk g) (hG : ∀ G, l.2 G → scOk sc xs G) (hd : decode (iC (pI g id)) pc = .ok (.baload, len)) (h : a2 g sc id pc (.baload) len lv st sh m = some K) : a2G l g xs id P kc ks pc lv st sh m K := by
  simp only [a2] at h
  split at h
  · split at h
    · next n he =>
        obtain ⟨h1, rfl⟩ := bif_some h
        rw [Bool.and_eq_true, Bool.and_eq_true] at h1
        obtain ⟨h1, h2, h3⟩ := h1
        have e1 := Nat.eq_of_beq_eq_true h1
        subst e1
        exact fun k => AW.bald hd (shA_spec he) (inB_spec h2) (AW.cast (fun G hΓ => ⟨rfl, map_top (sy_den (hG G hΓ).1 h3)⟩) k)
    · split at h
      · next n he =>
          obtain ⟨h1, rfl⟩ := bif_some h
          rw [Bool.and_eq_true, Bool.and_eq_true] at h1
          obtain ⟨h1, h2, h3⟩ := h1
          have e1 := Nat.eq_of_beq_eq_true h1
          subst e1
          exact fun k => AW.zald hd (shA_spec he) (inB_spec h2) (AW.cast (fun G hΓ => ⟨rfl, map_top (sy_den (hG G hΓ).1 h3)⟩) k)
      · cases h
  · cases h
theorem a2_laload {l : aL} {g : aPg} {sc : aSc} {xs : Nat → Int32} {id pc len kc ks : Nat} {lv : List (Nat × Value)} {st : List Value} {sh : aH} {m : gM} {K : aK} {P : aP} (G : pgOk g) (hG : ∀ G, l.2 G → scOk sc xs G) (hd : decode (iC (pI g id)) pc = .ok (.laload, len)) (h : a2 g sc id pc (.laload) len lv st sh m = some K) : a2G l g xs id P kc ks pc lv st sh m K := by
  simp only [a2] at h
  split at h
  · split at h
    · next n he =>
        obtain ⟨h1, rfl⟩ := bif_some h
        rw [Bool.and_eq_true] at h1
        obtain ⟨h1, h2⟩ := h1
        have e1 := Nat.eq_of_beq_eq_true h1
        subst e1
        exact fun k => AW.lald hd (shA_spec he) (inB_spec h2) k
    · cases h
  · cases h
theorem a2_iastore {l : aL} {g : aPg} {sc : aSc} {xs : Nat → Int32} {id pc len kc ks : Nat} {lv : List (Nat × Value)} {st : List Value} {sh : aH} {m : gM} {K : aK} {P : aP} (G : pgOk g) (hG : ∀ G, l.2 G → scOk sc xs G) (hd : decode (iC (pI g id)) pc = .ok (.iastore, len)) (h : a2 g sc id pc (.iastore) len lv st sh m = some K) : a2G l g xs id P kc ks pc lv st sh m K := by
  simp only [a2] at h
  split at h
  · split at h
    · next n he =>
        obtain ⟨h1, rfl⟩ := bif_some h
        rw [Bool.and_eq_true, Bool.and_eq_true] at h1
        obtain ⟨h1, h2, h3⟩ := h1
        have e1 := Nat.eq_of_beq_eq_true h1
        subst e1
        obtain ⟨z, hz1, hz2, hz3⟩ := sy_un xs h3
        intro k
        rw [den_gset hz3, hz2] at k
        exact AW.cast (fun G hΓ => ⟨rfl, map_top (hz1 G (hG G hΓ).1)⟩) (AW.iast hd (shA_spec he) (inB_spec h2) k)
    · cases h
  · cases h
theorem a2_bastore {l : aL} {g : aPg} {sc : aSc} {xs : Nat → Int32} {id pc len kc ks : Nat} {lv : List (Nat × Value)} {st : List Value} {sh : aH} {m : gM} {K : aK} {P : aP} (G : pgOk g) (hG : ∀ G, l.2 G → scOk sc xs G) (hd : decode (iC (pI g id)) pc = .ok (.bastore, len)) (h : a2 g sc id pc (.bastore) len lv st sh m = some K) : a2G l g xs id P kc ks pc lv st sh m K := by
  simp only [a2] at h
  split at h
  · split at h
    · next n he =>
        obtain ⟨h1, rfl⟩ := bif_some h
        rw [Bool.and_eq_true, Bool.and_eq_true] at h1
        obtain ⟨h1, h2, h3⟩ := h1
        have e1 := Nat.eq_of_beq_eq_true h1
        subst e1
        obtain ⟨z, hz1, hz2, hz3⟩ := nrB_un xs h3
        intro k
        rw [den_gset hz3, hz2] at k
        exact AW.cast (fun G hΓ => ⟨rfl, map_top (hz1 G (hG G hΓ).1)⟩) (AW.bast hd (shA_spec he) (inB_spec h2) k)
    · split at h
      · next n he =>
          obtain ⟨h1, rfl⟩ := bif_some h
          rw [Bool.and_eq_true, Bool.and_eq_true] at h1
          obtain ⟨h1, h2, h3⟩ := h1
          have e1 := Nat.eq_of_beq_eq_true h1
          subst e1
          obtain ⟨z, hz1, hz2, hz3⟩ := nrZ_un xs h3
          intro k
          rw [den_gset hz3, hz2] at k
          exact AW.cast (fun G hΓ => ⟨rfl, map_top (hz1 G (hG G hΓ).1)⟩) (AW.zast hd (shA_spec he) (inB_spec h2) k)
      · cases h
  · cases h
theorem a2_lastore {l : aL} {g : aPg} {sc : aSc} {xs : Nat → Int32} {id pc len kc ks : Nat} {lv : List (Nat × Value)} {st : List Value} {sh : aH} {m : gM} {K : aK} {P : aP} (G : pgOk g) (hG : ∀ G, l.2 G → scOk sc xs G) (hd : decode (iC (pI g id)) pc = .ok (.lastore, len)) (h : a2 g sc id pc (.lastore) len lv st sh m = some K) : a2G l g xs id P kc ks pc lv st sh m K := by
  simp only [a2] at h
  split at h
  · split at h
    · next n he =>
        obtain ⟨h1, rfl⟩ := bif_some h
        rw [Bool.and_eq_true] at h1
        obtain ⟨h1, h2⟩ := h1
        have e1 := Nat.eq_of_beq_eq_true h1
        subst e1
        intro k
        rw [den_gset rfl] at k
        exact AW.last hd (shA_spec he) (inB_spec h2) k
    · cases h
  · cases h
theorem a2_arraylength {l : aL} {g : aPg} {sc : aSc} {xs : Nat → Int32} {id pc len kc ks : Nat} {lv : List (Nat × Value)} {st : List Value} {sh : aH} {m : gM} {K : aK} {P : aP} (G : pgOk g) (hG : ∀ G, l.2 G → scOk sc xs G) (hd : decode (iC (pI g id)) pc = .ok (.arraylength, len)) (h : a2 g sc id pc (.arraylength) len lv st sh m = some K) : a2G l g xs id P kc ks pc lv st sh m K := by
  simp only [a2] at h
  split at h
  · split at h
    · next n he =>
        obtain ⟨h1, rfl⟩ := bif_some h
        have e1 := Nat.eq_of_beq_eq_true h1
        subst e1
        exact fun k => AW.alen hd he k
    · cases h
  · split at h
    · next L he =>
        obtain ⟨h1, rfl⟩ := bif_some h
        have e1 := Nat.eq_of_beq_eq_true h1
        subst e1
        exact fun k => AW.slen hG hd he k
    · cases h
  · cases h
theorem a2_new {l : aL} {g : aPg} {sc : aSc} {xs : Nat → Int32} {id pc len kc ks : Nat} {lv : List (Nat × Value)} {st : List Value} {sh : aH} {m : gM} {K : aK} {P : aP} {q : Nat} (G : pgOk g) (hG : ∀ G, l.2 G → scOk sc xs G) (hd : decode (iC (pI g id)) pc = .ok (.new q, len)) (h : a2 g sc id pc (.new q) len lv st sh m = some K) : a2G l g xs id P kc ks pc lv st sh m K := by
  simp only [a2] at h
  split at h
  · next ci he =>
      split at h
      · next w hw =>
          obtain ⟨h1, rfl⟩ := bif_some h
          rw [Bool.and_eq_true] at h1
          obtain ⟨h1, h2⟩ := h1
          have e1 := Nat.eq_of_beq_eq_true h1
          subst e1
          obtain ⟨w', q1, q2, q3, q4, q5⟩ := G.2.2.2.1 _ _ _ he
          cases hw.symm.trans q1
          exact fun k => AW.new hd h2 hw q2 q3 q4 q5 k
      · cases h
  · cases h
theorem a2_newarray {l : aL} {g : aPg} {sc : aSc} {xs : Nat → Int32} {id pc len kc ks : Nat} {lv : List (Nat × Value)} {st : List Value} {sh : aH} {m : gM} {K : aK} {P : aP} {at_ : ArrayType} (G : pgOk g) (hG : ∀ G, l.2 G → scOk sc xs G) (hd : decode (iC (pI g id)) pc = .ok (.newarray at_, len)) (h : a2 g sc id pc (.newarray at_) len lv st sh m = some K) : a2G l g xs id P kc ks pc lv st sh m K := by
  simp only [a2] at h
  split at h
  · split at h
    · obtain ⟨h1, rfl⟩ := bif_some h
      rw [Bool.and_eq_true, Bool.and_eq_true, Bool.and_eq_true] at h1
      obtain ⟨h1, h2, h3, h4⟩ := h1
      have e1 := Nat.eq_of_beq_eq_true h1
      subst e1
      exact fun k => AW.newa (ty := .int) hd rfl h2 gw_181 (by simpa using h3) (Nat.le_of_ble_eq_true h4) k (fun b M' i k h => by obtain ⟨z1, z2, z3⟩ := h; simp only [sv, z1, z2]; rfl)
    · obtain ⟨h1, rfl⟩ := bif_some h
      rw [Bool.and_eq_true, Bool.and_eq_true, Bool.and_eq_true] at h1
      obtain ⟨h1, h2, h3, h4⟩ := h1
      have e1 := Nat.eq_of_beq_eq_true h1
      subst e1
      exact fun k => AW.newa (ty := .byte) hd rfl h2 gw_67 (by simpa using h3) (Nat.le_of_ble_eq_true h4) k (fun b M' i k h => by obtain ⟨z1, z2, z3⟩ := h; simp only [sv, z1, z2]; rfl)
    · obtain ⟨h1, rfl⟩ := bif_some h
      rw [Bool.and_eq_true, Bool.and_eq_true, Bool.and_eq_true] at h1
      obtain ⟨h1, h2, h3, h4⟩ := h1
      have e1 := Nat.eq_of_beq_eq_true h1
      subst e1
      exact fun k => AW.newa (ty := .long) hd rfl h2 gw_210 (by simpa using h3) (Nat.le_of_ble_eq_true h4) k (fun b M' i k h => by obtain ⟨z1, z2, z3⟩ := h; simp only [sv, z1, z2]; rfl)
    · obtain ⟨h1, rfl⟩ := bif_some h
      rw [Bool.and_eq_true, Bool.and_eq_true, Bool.and_eq_true] at h1
      obtain ⟨h1, h2, h3, h4⟩ := h1
      have e1 := Nat.eq_of_beq_eq_true h1
      subst e1
      exact fun k => AW.newa (ty := .boolean) hd rfl h2 gw_1279 (by simpa using h3) (Nat.le_of_ble_eq_true h4) k (fun b M' i k h => by obtain ⟨z1, z2, z3⟩ := h; simp only [sv, z1, z2]; rfl)
    · cases h
  · cases h
theorem a2_ok {l : aL} {g : aPg} {sc : aSc} {xs : Nat → Int32} {id pc len kc ks : Nat} {lv : List (Nat × Value)} {st : List Value} {sh : aH} {m : gM} {K : aK} {P : aP} {i : Instr} (G : pgOk g) (hG : ∀ G, l.2 G → scOk sc xs G) (hd : decode (iC (pI g id)) pc = .ok (i, len)) (h : a2 g sc id pc i len lv st sh m = some K) : a2G l g xs id P kc ks pc lv st sh m K := by
  cases i
  all_goals first
    | exact a2_iconst G hG hd h
    | exact a2_bipush G hG hd h
    | exact a2_sipush G hG hd h
    | exact a2_lconst G hG hd h
    | exact a2_iload_n G hG hd h
    | exact a2_lload_n G hG hd h
    | exact a2_iload G hG hd h
    | exact a2_lload G hG hd h
    | exact a2_aload_n G hG hd h
    | exact a2_aload G hG hd h
    | exact a2_istore_n G hG hd h
    | exact a2_lstore_n G hG hd h
    | exact a2_istore G hG hd h
    | exact a2_lstore G hG hd h
    | exact a2_astore_n G hG hd h
    | exact a2_astore G hG hd h
    | exact a2_iinc G hG hd h
    | exact a2_iadd G hG hd h
    | exact a2_isub G hG hd h
    | exact a2_imul G hG hd h
    | exact a2_ior G hG hd h
    | exact a2_ixor G hG hd h
    | exact a2_ishl G hG hd h
    | exact a2_iushr G hG hd h
    | exact a2_idiv G hG hd h
    | exact a2_irem G hG hd h
    | exact a2_ladd G hG hd h
    | exact a2_lsub G hG hd h
    | exact a2_lmul G hG hd h
    | exact a2_land G hG hd h
    | exact a2_lor G hG hd h
    | exact a2_ldiv G hG hd h
    | exact a2_lcmp G hG hd h
    | exact a2_lshl G hG hd h
    | exact a2_lshr G hG hd h
    | exact a2_lushr G hG hd h
    | exact a2_i2l G hG hd h
    | exact a2_l2i G hG hd h
    | exact a2_iand G hG hd h
    | exact a2_ishr G hG hd h
    | exact a2_i2b G hG hd h
    | exact a2_i2c G hG hd h
    | exact a2_dup G hG hd h
    | exact a2_pop G hG hd h
    | exact a2_dup2 G hG hd h
    | exact a2_if_icmp G hG hd h
    | exact a2_ifCond G hG hd h
    | exact a2_goto G hG hd h
    | exact a2_tableswitch G hG hd h
    | exact a2_ldc G hG hd h
    | exact a2_ldc_w G hG hd h
    | exact a2_ldc2_w G hG hd h
    | exact a2_getfield G hG hd h
    | exact a2_putfield G hG hd h
    | exact a2_iaload G hG hd h
    | exact a2_baload G hG hd h
    | exact a2_laload G hG hd h
    | exact a2_iastore G hG hd h
    | exact a2_bastore G hG hd h
    | exact a2_lastore G hG hd h
    | exact a2_arraylength G hG hd h
    | exact a2_new G hG hd h
    | exact a2_newarray G hG hd h
    | (simp [a2] at h; done)
