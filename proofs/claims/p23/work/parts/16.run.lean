/-! runs: calls, returns, throws, handlers -/
abbrev aF : Type := Nat → Nat → List (Nat × Value) → List Value → aH → gM → Nat → Nat → Option (aR × aH × gM × Nat × Nat)
def room (g : aPg) (id jd : Nat) : Bool := Nat.ble (iF (pI g jd) + 1) (iF (pI g id)) && Nat.ble (8 + (iL (pI g jd) + 11) + iW (pI g jd)) (iW (pI g id))
theorem room_spec {g : aPg} {id jd : Nat} (h : room g id jd = true) : iF (pI g jd) + 1 ≤ iF (pI g id) ∧ 8 + (iL (pI g jd) + 11) + iW (pI g jd) ≤ iW (pI g id) := by
  rw [room, Bool.and_eq_true] at h
  exact ⟨Nat.le_of_ble_eq_true h.1, Nat.le_of_ble_eq_true h.2⟩
def cats (st : List Value) : Nat := (st.map fun v => v.category).sum
def retI (ret : Option FieldType) (x : Int32) : Bool := match ret with
  | some .int => true
  | some .boolean => decide (x = 0) || decide (x = 1)
  | _ => false
/-- how a method goes on, and how it ends -/
abbrev aN (ρ : Type) : Type := Nat → List (Nat × Value) → List Value → aH → gM → Nat → Nat → Option ρ
abbrev aT (ρ : Type) : Type := aR → aH → gM → Nat → Nat → Option ρ
/-- what comes behind a call -/
def andT {ρ : Type} (x : Option (aR × aH × gM × Nat × Nat)) (k : Option Value → aH → gM → Nat → Nat → Option ρ) (t : String → aH → gM → Nat → Nat → Option ρ) : Option ρ := match x with
  | some (.inl v, sh, m, c, s) => k v sh m c s
  | some (.inr X, sh, m, c, s) => t X sh m c s
  | none => none
theorem andT_spec {ρ : Type} {x : Option (aR × aH × gM × Nat × Nat)} {k : Option Value → aH → gM → Nat → Nat → Option ρ} {t : String → aH → gM → Nat → Nat → Option ρ} {y : ρ} (h : andT x k t = some y) : (∃ v sh m c1 s1, x = some (.inl v, sh, m, c1, s1) ∧ k v sh m c1 s1 = some y) ∨ ∃ X sh m c1 s1, x = some (.inr X, sh, m, c1, s1) ∧ t X sh m c1 s1 = some y := by
  unfold andT at h
  split at h
  · next v sh m c1 s1 => exact Or.inl ⟨v, sh, m, c1, s1, rfl, h⟩
  · next X sh m c1 s1 => exact Or.inr ⟨X, sh, m, c1, s1, rfl, h⟩
  · cases h
/-- a throw that comes out of a call: a handler answers, or it goes on -/
def axT {ρ : Type} (rt : aT ρ) (g : aPg) (id pc : Nat) : String → aH → gM → Nat → Nat → Option ρ := fun X sh m c s => match pH g id pc X with
  | some k => rt (.inl (some (.int (Int32.ofInt k)))) sh m c s
  | none => (match iT (pI g id) with
    | [] => rt (.inr X) sh m c s
    | _ :: _ => none)
theorem axT_spec {ρ : Type} {rt : aT ρ} {g : aPg} {id pc : Nat} {X : String} {sh : aH} {m : gM} {c s : Nat} {y : ρ} (G : pgOk g) (h : axT rt g id pc X sh m c s = some y) : ∃ r : aR, rt r sh m c s = some y ∧ ∀ (l : aL) (P : aP) (kc ks : Nat) (lv : List (Nat × Value)) (M : aM), P r sh M → AX l (pI g id) P kc ks pc lv sh M X := by
  unfold axT at h
  split at h
  · next k hk => exact ⟨_, h, fun l P kc ks lv M hP => G.2.2.2.2.2.2.2.2 _ _ _ _ hk l P kc ks lv sh M hP⟩
  · split at h
    · next hT => exact ⟨_, h, fun l P kc ks lv M hP => AX.out (by rw [hT]; exact fun _ h => absurd h List.not_mem_nil) hP⟩
    · cases h
/-- a stretch of one row written over another's -/
def gcp (g : List (Nat × Nat × Value)) (i j sp dp : Nat) : Nat → List (Nat × Nat × Value)
  | 0 => g
  | n + 1 => gp (fun y => decide (y = .int 0)) (gcp g i j sp dp n) j (dp + n) (gk (.int 0) g i (sp + n))
theorem gcp_spec (g : List (Nat × Nat × Value)) (i j sp dp a c : Nat) : ∀ n : Nat, gk (.int 0) (gcp g i j sp dp n) a c = if a = j ∧ (dp ≤ c ∧ c < dp + n) then gk (.int 0) g i (sp + (c - dp)) else gk (.int 0) g a c
  | 0 => by
    rw [if_neg (by omega)]
    rfl
  | n + 1 => by
    show gk (Value.int 0) (gp _ _ _ _ _) a c = _
    rw [gk_gp (fun h => by simpa using h)]
    have ih := gcp_spec g i j sp dp a c n
    simp only [upd2]
    by_cases h1 : a = j
    · by_cases h2 : c = dp + n
      · subst h2
        rw [if_pos h1, if_pos rfl, if_pos ⟨h1, by omega⟩]
        congr 1
        omega
      · rw [if_pos h1, if_neg h2, ih]
        by_cases h3 : dp ≤ c ∧ c < dp + n
        · rw [if_pos ⟨h1, h3⟩, if_pos ⟨h1, by omega⟩]
        · rw [if_neg (fun h => h3 h.2), if_neg (fun h => h3 (by omega))]
    · rw [if_neg h1, ih, if_neg (fun h => h1 h.1), if_neg (fun h => h1 h.1)]
theorem gcp_den {xs : Nat → Int32} {m : gM} {i j sp dp n : Nat} : den xs (gcp m.1 i j sp dp n, m.2) = acpy (den xs m) i j sp dp n := by
  simp only [den, acpy]
  congr 1
  funext a c
  rw [gcp_spec]
  by_cases h1 : a = j
  · subst h1
    simp only [va_cpy, if_true]
    by_cases h3 : dp ≤ c ∧ c < dp + n
    · simp [h3]
    · simp [h3]
  · simp [h1]
def axY {ρ : Type} (kk : aN ρ) (g : aPg) (id pc : Nat) (lv : List (Nat × Value)) (st : List Value) (sh : aH) (m : gM) (c s : Nat) : Option ρ := match st with
  | .int k :: .int dp :: .ref j :: .int sp :: .ref i :: st' => (match shA sh i .int with
    | some n0 => (match shA sh j .int with
      | some n1 => (bif (!decide (sp < 0) && (!decide (dp < 0) && (!decide (k < 0) && (Nat.ble (sp.toNatClampNeg + k.toNatClampNeg) n0 && (Nat.ble (dp.toNatClampNeg + k.toNatClampNeg) n1 && (Nat.ble 1 (iF (pI g id)) && Nat.ble (cats st' + 18) (iW (pI g id)))))))) then kk (pc + 3) lv st' sh (gcp m.1 i j sp.toNatClampNeg dp.toNatClampNeg k.toNatClampNeg, m.2) c s else none)
      | none => none)
    | none => none)
  | _ => none
/-- what goes on behind an instruction of a method's own -/
def axA {ρ : Type} (kk : aN ρ) (x : Option aK) (c s : Nat) : Option ρ := match x with
  | some (pc', lv', st', sh', m', dc, ds) => kk pc' lv' st' sh' m' (c + dc) (s + ds)
  | none => none
def axI {ρ : Type} (fc : aF) (kk : aN ρ) (rt : aT ρ) (g : aPg) (sc : aSc) (id pc : Nat) (i : Instr) (len : Nat) (lv : List (Nat × Value)) (st : List Value) (sh : aH) (m : gM) (c s : Nat) : Option ρ :=
  match i with
  | .ireturn => (match st with | [.int x] => (bif Nat.beq len 1 && retI (iR (pI g id)) x then rt (.inl (some (.int x))) sh m c s else none) | _ => none)
  | .lreturn => (match st with | [.long x] => (bif Nat.beq len 1 && decide (iR (pI g id) = some .long) then rt (.inl (some (.long x))) sh m c s else none) | _ => none)
  | .return_ => (match st with | [] => (bif Nat.beq len 1 && decide (iR (pI g id) = none) then rt (.inl none) sh m c s else none) | _ => none)
  | .new q => (match pE g id pc with
    | some X => (match st with | [] => rt (.inr X) (false, sh.2) m (c + 1) (s + 6) | _ :: _ => none)
    | none => axA kk (a2 g sc id pc (.new q) len lv st sh m) c s)
  | .invokevirtual q => (match pM g (pO g id) q with
    | some (jd, kd, np) => (match st.drop np with
      | .ref j :: st' => (bif Nat.beq len 3 && (Nat.beq kd 0 && (Nat.beq (st.take np).length np && (shO sh j (pN g jd) && (room g id jd && (Nat.ble (cats st') 8 && Nat.ble (lg_sl (.ref j :: (st.take np).reverse)).length (iL (pI g jd))))))) then andT (fc jd 0 (lv_args 0 (.ref j :: (st.take np).reverse)) [] sh m c s) (fun v sh' m' c' s' => kk (pc + 3) lv (v.toList ++ st') sh' m' c' s') (axT rt g id pc) else none)
      | _ => none)
    | none => none)
  | .invokestatic q => (match pM g (pO g id) q with
    | some (jd, kd, np) => (bif Nat.beq len 3 && Nat.beq kd 5 then axY kk g id pc lv st sh m c s
      else bif Nat.beq len 3 && ((Nat.beq kd 1 || Nat.beq kd 6) && (Nat.beq (st.take np).length np && (room g id jd && (Nat.ble (cats (st.drop np)) 8 && Nat.ble (lg_sl (st.take np).reverse).length (iL (pI g jd)))))) then andT (fc jd 0 (lv_args 0 (st.take np).reverse) [] sh m c s) (fun v sh' m' c' s' => kk (pc + 3) lv (v.toList ++ st.drop np) sh' m' c' s') (axT rt g id pc) else none)
    | none => none)
  | .invokespecial q => (match pM g (pO g id) q with
    | some (jd, kd, np) => (match st.drop np with
      | .ref j :: st' => (bif Nat.beq len 3 && Nat.beq kd 4 then (bif Nat.beq np 0 && (Nat.ble 1 (iF (pI g id)) && Nat.ble (cats st' + 12) (iW (pI g id))) then kk (pc + 3) lv st' sh m c s else none)
        else (bif Nat.beq len 3 && ((Nat.beq kd 2 || Nat.beq kd 3) && (Nat.beq (st.take np).length np && (room g id jd && (Nat.ble (cats st') 8 && Nat.ble (lg_sl (.ref j :: (st.take np).reverse)).length (iL (pI g jd)))))) then andT (fc jd 0 (lv_args 0 (.ref j :: (st.take np).reverse)) [] sh m c s) (fun v sh' m' c' s' => kk (pc + 3) lv (v.toList ++ st') sh' m' c' s') (fun _ _ _ _ _ => none) else none))
      | _ => none)
    | none => none)
  | i => axA kk (a2 g sc id pc i len lv st sh m) c s
noncomputable def ax (g : aPg) (sc : aSc) (n : Nat) : aF := Nat.rec (motive := fun _ => aF) (fun _ _ _ _ _ _ _ _ => none) (fun _ ih id pc lv st sh m c s => match pT g id pc with
  | some (i, len) => axI ih (ih id) (fun r sh m c s => some (r, sh, m, c, s)) g sc id pc i len lv st sh m c s
  | none => none) n
/-- a method's own steps, to a place: its calls are runs of at most nf steps -/
noncomputable def aU (g : aPg) (sc : aSc) (nf id stop : Nat) (n : Nat) : aN aK := Nat.rec (motive := fun _ => aN aK) (fun _ _ _ _ _ _ _ => none) (fun _ ih pc lv st sh m c s => match Nat.beq pc stop with
  | true => some (pc, lv, st, sh, m, c, s)
  | false => (match pT g id pc with
    | some (i, len) => axI (ax g sc nf) ih (fun _ _ _ _ _ => none) g sc id pc i len lv st sh m c s
    | none => none)) n
/-- what a run says -/
def axG (l : Launch) (g : aPg) (sc : aSc) (xs : Nat → Int32) (f : aF) : Prop := ∀ (id pc : Nat) (lv : List (Nat × Value)) (st : List Value) (sh : aH) (m : gM) (r : aR) (sh' : aH) (m' : gM) (c s c' s' : Nat), f id pc lv st sh m c s = some (r, sh', m', c', s') → ∃ dc ds : Nat, c' = c + dc ∧ s' = s + ds ∧ ∀ (Γ : aG → Prop) (P : aP) (kc ks : Nat), (∀ G, Γ G → scOk sc xs G) → P r sh' (den xs m') → AW (l, Γ) (pI g id) P (kc + dc) (ks + ds) pc lv st sh (den xs m)
theorem rev_take {st : List Value} {np : Nat} : (st.take np).reverse.reverse ++ st.drop np = st := by
  rw [List.reverse_reverse, List.take_append_drop]
/-- one step: it goes on somewhere, or it ends -/
def stG (l : Launch) (g : aPg) (sc : aSc) (xs : Nat → Int32) (id pc : Nat) (lv : List (Nat × Value)) (st : List Value) (sh : aH) (m : gM) (c s : Nat) {ρ : Type} (kk : aN ρ) (rt : aT ρ) (y : ρ) : Prop :=
  (∃ (pc' : Nat) (lv' : List (Nat × Value)) (st' : List Value) (sh' : aH) (m' : gM) (dc ds : Nat), kk pc' lv' st' sh' m' (c + dc) (s + ds) = some y ∧ ∀ (Γ : aG → Prop) (P : aP) (kc ks : Nat), (∀ G, Γ G → scOk sc xs G) → AW (l, Γ) (pI g id) P kc ks pc' lv' st' sh' (den xs m') → AW (l, Γ) (pI g id) P (kc + dc) (ks + ds) pc lv st sh (den xs m)) ∨
  (∃ (r : aR) (sh' : aH) (m' : gM) (dc ds : Nat), rt r sh' m' (c + dc) (s + ds) = some y ∧ ∀ (Γ : aG → Prop) (P : aP) (kc ks : Nat), (∀ G, Γ G → scOk sc xs G) → P r sh' (den xs m') → AW (l, Γ) (pI g id) P (kc + dc) (ks + ds) pc lv st sh (den xs m))
section AXS
variable {l : Launch} {g : aPg} {sc : aSc} {xs : Nat → Int32} {f : aF} {ρ : Type} {kk : aN ρ} {rt : aT ρ} {y : ρ} {id pc len jd : Nat} {lv : List (Nat × Value)} {st st' av : List Value} {sh : aH} {m : gM} {c s : Nat}
theorem st_call (G : pgOk g) (hf : axG l g sc xs f) (h : andT (f jd 0 (lv_args 0 av) [] sh m c s) (fun v sh' m' c' s' => kk (pc + 3) lv (v.toList ++ st') sh' m' c' s') (axT rt g id pc) = some y)
    (rule : ∀ (Γ : aG → Prop) (P P1 : aP) (kc ks kc1 ks1 : Nat), AW (l, Γ) (pI g jd) P1 kc1 ks1 0 (lv_args 0 av) [] sh (den xs m) → (∀ v sh' M', P1 (.inl v) sh' M' → AW (l, Γ) (pI g id) P kc ks (pc + 3) lv (v.toList ++ st') sh' M') → (∀ X sh' M', P1 (.inr X) sh' M' → AX (l, Γ) (pI g id) P kc ks pc lv sh' M' X) → AW (l, Γ) (pI g id) P (kc + kc1) (ks + ks1) pc lv st sh (den xs m)) : stG l g sc xs id pc lv st sh m c s kk rt y := by
  rcases andT_spec h with ⟨v, sh1, m1, c1, s1, k1, k2⟩ | ⟨X, sh1, m1, c1, s1, k1, k2⟩
  · obtain ⟨dc, ds, rfl, rfl, hk⟩ := hf _ _ _ _ _ _ _ _ _ _ _ _ _ k1
    refine Or.inl ⟨_, _, _, _, _, dc, ds, k2, fun Γ P kc ks hsc hr => ?_⟩
    refine rule Γ P (fun r sh2 M2 => r = .inl v ∧ sh2 = sh1 ∧ M2 = den xs m1) kc ks dc ds ?_ ?_ ?_
    · have h9 := hk Γ (fun r sh2 M2 => r = .inl v ∧ sh2 = sh1 ∧ M2 = den xs m1) 0 0 hsc ⟨rfl, rfl, rfl⟩
      rw [Nat.zero_add, Nat.zero_add] at h9
      exact h9
    · intro v' sh2 M2 hp
      obtain ⟨p1, p2, p3⟩ := hp
      cases p1
      subst p2
      subst p3
      exact hr
    · intro X sh2 M2 hp
      cases hp.1
  · obtain ⟨dc, ds, rfl, rfl, hk⟩ := hf _ _ _ _ _ _ _ _ _ _ _ _ _ k1
    obtain ⟨r, q1, q2⟩ := axT_spec G k2
    refine Or.inr ⟨r, _, _, dc, ds, q1, fun Γ P kc ks hsc hr => ?_⟩
    refine rule Γ P (fun r sh2 M2 => r = .inr X ∧ sh2 = sh1 ∧ M2 = den xs m1) kc ks dc ds ?_ ?_ ?_
    · have h9 := hk Γ (fun r sh2 M2 => r = .inr X ∧ sh2 = sh1 ∧ M2 = den xs m1) 0 0 hsc ⟨rfl, rfl, rfl⟩
      rw [Nat.zero_add, Nat.zero_add] at h9
      exact h9
    · intro v' sh2 M2 hp
      cases hp.1
    · intro X' sh2 M2 hp
      obtain ⟨p1, p2, p3⟩ := hp
      cases p1
      subst p2
      subst p3
      exact q2 _ _ _ _ _ _ hr
theorem st_callN (hf : axG l g sc xs f) (h : andT (f jd 0 (lv_args 0 av) [] sh m c s) (fun v sh' m' c' s' => kk (pc + 3) lv (v.toList ++ st') sh' m' c' s') (fun _ _ _ _ _ => none) = some y)
    (rule : ∀ (Γ : aG → Prop) (P P1 : aP) (kc ks kc1 ks1 : Nat), AW (l, Γ) (pI g jd) P1 kc1 ks1 0 (lv_args 0 av) [] sh (den xs m) → (∀ X sh M, ¬ P1 (.inr X) sh M) → (∀ v sh' M', P1 (.inl v) sh' M' → AW (l, Γ) (pI g id) P kc ks (pc + 3) lv (v.toList ++ st') sh' M') → AW (l, Γ) (pI g id) P (kc + kc1) (ks + ks1) pc lv st sh (den xs m)) : stG l g sc xs id pc lv st sh m c s kk rt y := by
  rcases andT_spec h with ⟨v, sh1, m1, c1, s1, k1, k2⟩ | ⟨X, sh1, m1, c1, s1, k1, k2⟩
  · obtain ⟨dc, ds, rfl, rfl, hk⟩ := hf _ _ _ _ _ _ _ _ _ _ _ _ _ k1
    refine Or.inl ⟨_, _, _, _, _, dc, ds, k2, fun Γ P kc ks hsc hr => ?_⟩
    refine rule Γ P (fun r sh2 M2 => r = .inl v ∧ sh2 = sh1 ∧ M2 = den xs m1) kc ks dc ds ?_ ?_ ?_
    · have h9 := hk Γ (fun r sh2 M2 => r = .inl v ∧ sh2 = sh1 ∧ M2 = den xs m1) 0 0 hsc ⟨rfl, rfl, rfl⟩
      rw [Nat.zero_add, Nat.zero_add] at h9
      exact h9
    · intro X sh2 M2 hp
      cases hp.1
    · intro v' sh2 M2 hp
      obtain ⟨p1, p2, p3⟩ := hp
      cases p1
      subst p2
      subst p3
      exact hr
  · cases k2
theorem axV_ok (G : pgOk g) (hl0 : l.stackTraces = false) (hf : axG l g sc xs f) {q : Nat} (hd : decode (iC (pI g id)) pc = .ok (.invokevirtual q, len)) (h : axI f kk rt g sc id pc (.invokevirtual q) len lv st sh m c s = some y) : stG l g sc xs id pc lv st sh m c s kk rt y := by
  simp only [axI] at h
  split at h
  · next jd kd np hm =>
      split at h
      · next j st' hst =>
          replace h := bif_some2 h
          obtain ⟨h1, h⟩ := h
          simp only [Bool.and_eq_true] at h1
          obtain ⟨h1, h2, h3, h4, h5, h6, h7⟩ := h1
          have e1 := Nat.eq_of_beq_eq_true h1
          subst e1
          have e2 := Nat.eq_of_beq_eq_true h2
          have e3 := Nat.eq_of_beq_eq_true h3
          obtain ⟨w1, w2, ⟨w, hq, hqc⟩, o1, o2, o3⟩ := (G.2.2.1 _ _ _ _ _ hm).1 e2
          have hsplit : (st.take np).reverse.reverse ++ .ref j :: st' = st := by rw [← hst]; exact rev_take
          have hlen : (st.take np).reverse.length = np := by rw [List.length_reverse]; exact e3
          refine st_call G hf h (fun Γ P P1 kc ks kc1 ks1 ha kr kx => ?_)
          have hk := AW.callV (l := (l, Γ)) (mj := pI g jd) (as := (st.take np).reverse) (st := st') (P := P) (kc := kc) (ks := ks) (lv := lv) (P1 := P1) hd (shO_spec h4) hq hqc w1 ⟨by rw [hlen]; exact w2, room_spec h5⟩ (Nat.le_of_ble_eq_true h6) (AC.of hl0 o1 o2 o3 (Nat.le_of_ble_eq_true h7) ha) kr kx
          rw [hsplit] at hk
          exact hk
      · cases h
  · cases h
theorem axS_ok (G : pgOk g) (hl0 : l.stackTraces = false) (hf : axG l g sc xs f) {q : Nat} (hd : decode (iC (pI g id)) pc = .ok (.invokestatic q, len)) (h : axI f kk rt g sc id pc (.invokestatic q) len lv st sh m c s = some y) : stG l g sc xs id pc lv st sh m c s kk rt y := by
  simp only [axI] at h
  split at h
  · next jd kd np hm =>
      cases hb : (Nat.beq len 3 && Nat.beq kd 5) with
      | true =>
        rw [hb] at h
        simp only [cond_true] at h
        simp only [Bool.and_eq_true] at hb
        have e1 := Nat.eq_of_beq_eq_true hb.1
        subst e1
        have hY := (G.2.2.1 _ _ _ _ _ hm).2.2.2.2.2.1 (Nat.eq_of_beq_eq_true hb.2)
        unfold axY at h
        split at h
        · split at h
          · next n0 he0 =>
              split at h
              · next n1 he1 =>
                  replace h := bif_some2 h
                  obtain ⟨h1, h⟩ := h
                  simp only [Bool.and_eq_true, Bool.not_eq_true', decide_eq_false_iff_not] at h1
                  obtain ⟨q1, q2, q3, q4, q5, q6, q7⟩ := h1
                  refine Or.inl ⟨_, _, _, _, _, 0, 0, h, fun Γ P kc ks hsc hk => ?_⟩
                  rw [gcp_den] at hk
                  exact AW.copyi hd hY (shA_spec he0) (shA_spec he1) q1 q2 q3 (Nat.le_of_ble_eq_true q4) (Nat.le_of_ble_eq_true q5) (Nat.le_of_ble_eq_true q6) (Nat.le_of_ble_eq_true q7) hk
              · cases h
          · cases h
        · cases h
      | false =>
        rw [hb] at h
        simp only [cond_false] at h
        replace h := bif_some2 h
        obtain ⟨h1, h⟩ := h
        simp only [Bool.and_eq_true] at h1
        obtain ⟨h1, h2, h3, h5, h6, h7⟩ := h1
        have e1 := Nat.eq_of_beq_eq_true h1
        subst e1
        have e3 := Nat.eq_of_beq_eq_true h3
        have hsplit : (st.take np).reverse.reverse ++ st.drop np = st := rev_take
        have hlen : (st.take np).reverse.length = np := by rw [List.length_reverse]; exact e3
        rw [Bool.or_eq_true] at h2
        refine st_call G hf h (fun Γ P P1 kc ks kc1 ks1 ha kr kx => ?_)
        rcases h2 with h2 | h2
        · have e2 := Nat.eq_of_beq_eq_true h2
          obtain ⟨w1, w2, o1, o2, o3⟩ := (G.2.2.1 _ _ _ _ _ hm).2.1 e2
          have hk := AW.callS (l := (l, Γ)) (mj := pI g jd) (as := (st.take np).reverse) (st := st.drop np) (P := P) (kc := kc) (ks := ks) (lv := lv) (P1 := P1) hd w1 ⟨by rw [hlen]; exact w2, room_spec h5⟩ (Nat.le_of_ble_eq_true h6) (AC.of hl0 o1 o2 o3 (Nat.le_of_ble_eq_true h7) ha) kr kx
          rw [hsplit] at hk
          exact hk
        · have e2 := Nat.eq_of_beq_eq_true h2
          obtain ⟨hh, w1, w2, o1, o2, o3⟩ := (G.2.2.1 _ _ _ _ _ hm).2.2.2.2.2.2 e2
          have hk := AW.callH (l := (l, Γ)) (mj := pI g jd) (as := (st.take np).reverse) (st := st.drop np) (P := P) (kc := kc) (ks := ks) (lv := lv) (P1 := P1) hd w1 ⟨by rw [hlen]; exact w2, room_spec h5⟩ (Nat.le_of_ble_eq_true h6) (ACH.of hl0 o1 o2 o3 (Nat.le_of_ble_eq_true h7) ha) kr kx
          rw [hsplit] at hk
          exact hk
  · cases h
theorem axP_ok (G : pgOk g) (hl0 : l.stackTraces = false) (hf : axG l g sc xs f) {q : Nat} (hd : decode (iC (pI g id)) pc = .ok (.invokespecial q, len)) (h : axI f kk rt g sc id pc (.invokespecial q) len lv st sh m c s = some y) : stG l g sc xs id pc lv st sh m c s kk rt y := by
  simp only [axI] at h
  split at h
  · next jd kd np hm =>
      split at h
      · next j st' hst =>
          cases hb : (Nat.beq len 3 && Nat.beq kd 4) with
          | true =>
            rw [hb] at h
            simp only [cond_true] at h
            replace h := bif_some2 h
            obtain ⟨h1, h⟩ := h
            simp only [Bool.and_eq_true] at h1 hb
            obtain ⟨h1, h2, h3⟩ := h1
            have e1 := Nat.eq_of_beq_eq_true hb.1
            subst e1
            have e2 := Nat.eq_of_beq_eq_true hb.2
            have e3 := Nat.eq_of_beq_eq_true h1
            subst e3
            obtain ⟨w1, w2, w3⟩ := (G.2.2.1 _ _ _ _ _ hm).2.2.2.2.1 e2
            rw [List.drop_zero] at hst
            subst hst
            exact Or.inl ⟨_, _, _, _, _, 0, 0, h, fun Γ P kc ks hsc hr => AW.obj hd w1 w2 w3 (Nat.le_of_ble_eq_true h2) (Nat.le_of_ble_eq_true h3) hr⟩
          | false =>
            rw [hb] at h
            simp only [cond_false] at h
            replace h := bif_some2 h
            obtain ⟨h1, h⟩ := h
            simp only [Bool.and_eq_true] at h1
            obtain ⟨h1, h2, h3, h5, h6, h7⟩ := h1
            have e1 := Nat.eq_of_beq_eq_true h1
            subst e1
            have e3 := Nat.eq_of_beq_eq_true h3
            have hsplit : (st.take np).reverse.reverse ++ .ref j :: st' = st := by rw [← hst]; exact rev_take
            have hlen : (st.take np).reverse.length = np := by rw [List.length_reverse]; exact e3
            rw [Bool.or_eq_true] at h2
            refine st_callN hf h (fun Γ P P1 kc ks kc1 ks1 ha hno kr => ?_)
            rcases h2 with h2 | h2
            · have e2 := Nat.eq_of_beq_eq_true h2
              obtain ⟨w1, w2, o1, o2, o3⟩ := (G.2.2.1 _ _ _ _ _ hm).2.2.1 e2
              have hk := AW.callI (l := (l, Γ)) (mj := pI g jd) (as := (st.take np).reverse) (st := st') (P := P) (kc := kc) (ks := ks) (lv := lv) hd w1 ⟨by rw [hlen]; exact w2, room_spec h5⟩ (Nat.le_of_ble_eq_true h6) (AC.of hl0 o1 o2 o3 (Nat.le_of_ble_eq_true h7) ha) hno kr
              rw [hsplit] at hk
              exact hk
            · have e2 := Nat.eq_of_beq_eq_true h2
              obtain ⟨w1, w2, o1, o2, o3⟩ := (G.2.2.1 _ _ _ _ _ hm).2.2.2.1 e2
              have hk := AW.callN (l := (l, Γ)) (mj := pI g jd) (as := (st.take np).reverse) (st := st') (P := P) (kc := kc) (ks := ks) (lv := lv) hd w1 ⟨by rw [hlen]; exact w2, room_spec h5⟩ (Nat.le_of_ble_eq_true h6) (AC.of hl0 o1 o2 o3 (Nat.le_of_ble_eq_true h7) ha) hno kr
              rw [hsplit] at hk
              exact hk
      · cases h
  · cases h
theorem axN_ok (G : pgOk g) {i : Instr} (hd : decode (iC (pI g id)) pc = .ok (i, len)) (h : axA kk (a2 g sc id pc i len lv st sh m) c s = some y) : stG l g sc xs id pc lv st sh m c s kk rt y := by
  unfold axA at h
  split at h
  · next hK => exact Or.inl ⟨_, _, _, _, _, _, _, h, fun Γ P kc ks hsc hr => a2_ok (l := (l, Γ)) (kc := kc) (ks := ks) G hsc hd hK hr⟩
  · cases h
theorem axI_ok (G : pgOk g) (hl0 : l.stackTraces = false) (hf : axG l g sc xs f) {i : Instr} (hd : decode (iC (pI g id)) pc = .ok (i, len)) (h : axI f kk rt g sc id pc i len lv st sh m c s = some y) : stG l g sc xs id pc lv st sh m c s kk rt y := by
  cases i
  case invokevirtual q => exact axV_ok G hl0 hf hd h
  case invokestatic q => exact axS_ok G hl0 hf hd h
  case invokespecial q => exact axP_ok G hl0 hf hd h
  case new q =>
    simp only [axI] at h
    split at h
    · next X hX =>
        split at h
        · exact Or.inr ⟨_, _, _, 1, 6, h, fun Γ P kc ks hsc hP => G.2.2.2.2.2.2.2.1 _ _ _ hX (l, Γ) P kc ks lv sh (den xs m) hP⟩
        · cases h
    · exact axN_ok G hd h
  case ireturn =>
    simp only [axI] at h
    split at h
    · next x =>
        replace h := bif_some2 h
        obtain ⟨h1, h⟩ := h
        rw [Bool.and_eq_true] at h1
        obtain ⟨h1, h2⟩ := h1
        have e1 := Nat.eq_of_beq_eq_true h1
        subst e1
        refine Or.inr ⟨_, _, _, 0, 0, h, fun Γ P kc ks hsc hP => ?_⟩
        unfold retI at h2
        split at h2
        · next hr => exact AW.iret hd hr hP
        · next hr =>
            refine AW.zret hd hr ?_ hP
            simp only [Bool.or_eq_true, decide_eq_true_eq] at h2
            rcases h2 with rfl | rfl
            · decide +kernel
            · decide +kernel
        · cases h2
    · cases h
  case lreturn =>
    simp only [axI] at h
    split at h
    · next x =>
        replace h := bif_some2 h
        obtain ⟨h1, h⟩ := h
        rw [Bool.and_eq_true] at h1
        obtain ⟨h1, h2⟩ := h1
        have e1 := Nat.eq_of_beq_eq_true h1
        subst e1
        exact Or.inr ⟨_, _, _, 0, 0, h, fun Γ P kc ks hsc hP => AW.lret hd (by simpa using h2) hP⟩
    · cases h
  case return_ =>
    simp only [axI] at h
    split at h
    · replace h := bif_some2 h
      obtain ⟨h1, h⟩ := h
      rw [Bool.and_eq_true] at h1
      obtain ⟨h1, h2⟩ := h1
      have e1 := Nat.eq_of_beq_eq_true h1
      subst e1
      exact Or.inr ⟨_, _, _, 0, 0, h, fun Γ P kc ks hsc hP => AW.vret hd (by simpa using h2) hP⟩
    · cases h
  all_goals exact axN_ok G hd h
end AXS
theorem ax_ok {l : Launch} {g : aPg} {sc : aSc} {xs : Nat → Int32} (G : pgOk g) (hl0 : l.stackTraces = false) : ∀ n : Nat, axG l g sc xs (ax g sc n)
  | 0 => fun _ _ _ _ _ _ _ _ _ _ _ _ _ h => by cases h
  | n + 1 => by
    have ih := ax_ok (l := l) (sc := sc) (xs := xs) G hl0 n
    intro id pc lv st sh m r sh' m' c s c' s' h
    have h : (match pT g id pc with | some (i, len) => axI (ax g sc n) (ax g sc n id) (fun r sh m c s => some (r, sh, m, c, s)) g sc id pc i len lv st sh m c s | none => none) = some (r, sh', m', c', s') := h
    split at h
    · next i len hT =>
        rcases axI_ok (xs := xs) G hl0 ih (G.1 _ _ _ _ hT) h with ⟨pc', lv', st', sh2, m2, dc, ds, hk, hr⟩ | ⟨r2, sh2, m2, dc, ds, hk, hr⟩
        · obtain ⟨d1, d2, g1, g2, k⟩ := ih _ _ _ _ _ _ _ _ _ _ _ _ _ hk
          refine ⟨d1 + dc, d2 + ds, by omega, by omega, fun Γ P kc ks hsc hP => ?_⟩
          have h9 := hr Γ P (kc + d1) (ks + d2) hsc (k Γ P kc ks hsc hP)
          rw [Nat.add_assoc, Nat.add_assoc] at h9
          exact h9
        · cases hk
          exact ⟨dc, ds, rfl, rfl, hr⟩
    · cases h
theorem aU_ok {l : Launch} {g : aPg} {sc : aSc} {xs : Nat → Int32} (G : pgOk g) (hl0 : l.stackTraces = false) {nf id stop : Nat} : ∀ (n pc : Nat) (lv : List (Nat × Value)) (st : List Value) (sh : aH) (m : gM) (c s : Nat) (K : aK), aU g sc nf id stop n pc lv st sh m c s = some K →
    ∃ dc ds : Nat, K.2.2.2.2.2.1 = c + dc ∧ K.2.2.2.2.2.2 = s + ds ∧ ∀ (Γ : aG → Prop) (P : aP) (kc ks : Nat), (∀ G, Γ G → scOk sc xs G) → AW (l, Γ) (pI g id) P kc ks K.1 K.2.1 K.2.2.1 K.2.2.2.1 (den xs K.2.2.2.2.1) → AW (l, Γ) (pI g id) P (kc + dc) (ks + ds) pc lv st sh (den xs m)
  | 0 => fun _ _ _ _ _ _ _ _ h => by cases h
  | n + 1 => by
    intro pc lv st sh m c s K h
    have h : (match Nat.beq pc stop with | true => some (pc, lv, st, sh, m, c, s) | false => (match pT g id pc with | some (i, len) => axI (ax g sc nf) (aU g sc nf id stop n) (fun _ _ _ _ _ => none) g sc id pc i len lv st sh m c s | none => none)) = some K := h
    split at h
    · cases h
      exact ⟨0, 0, rfl, rfl, fun Γ P kc ks _ k => k⟩
    · split at h
      · next i len hT =>
          rcases axI_ok (xs := xs) G hl0 (ax_ok G hl0 nf) (G.1 _ _ _ _ hT) h with ⟨pc', lv', st', sh2, m2, dc, ds, hk, hr⟩ | ⟨r2, sh2, m2, dc, ds, hk, hr⟩
          · obtain ⟨d1, d2, g1, g2, k⟩ := aU_ok (xs := xs) G hl0 n _ _ _ _ _ _ _ _ hk
            exact ⟨d1 + dc, d2 + ds, by omega, by omega, fun Γ P kc ks hsc hP => by
              have h9 := hr Γ P (kc + d1) (ks + d2) hsc (k Γ P kc ks hsc hP)
              rw [Nat.add_assoc, Nat.add_assoc] at h9
              exact h9⟩
          · cases hk
      · cases h
