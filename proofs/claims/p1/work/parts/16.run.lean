/-! runs: calls and returns -/
abbrev aF : Type := Nat → Nat → List (Nat × Value) → List Value → aH → gM → Nat → Nat → Option (aR × aH × gM × Nat × Nat)
def room (g : aPg) (id jd : Nat) : Bool := Nat.ble (iF (pI g jd) + 1) (iF (pI g id)) && Nat.ble (8 + (iL (pI g jd) + 11) + iW (pI g jd)) (iW (pI g id))
theorem room_spec {g : aPg} {id jd : Nat} (h : room g id jd = true) : iF (pI g jd) + 1 ≤ iF (pI g id) ∧ 8 + (iL (pI g jd) + 11) + iW (pI g jd) ≤ iW (pI g id) := by
  rw [room, Bool.and_eq_true] at h
  exact ⟨Nat.le_of_ble_eq_true h.1, Nat.le_of_ble_eq_true h.2⟩
def cats (st : List Value) : Nat := (st.map fun v => v.category).sum
def retI (ret : Option FieldType) (x : Int32) : Bool := match ret with
  | some .int => true
  | some .boolean => decide (x = 0) || decide (x = 1)
  | _ => false
/-- how a method goes on, and how it ends -/
abbrev aN (ρ : Type) : Type := Nat → List (Nat × Value) → List Value → aH → gM → Nat → Nat → Option ρ
abbrev aT (ρ : Type) : Type := aR → aH → gM → Nat → Nat → Option ρ
/-- what comes behind a call that has returned -/
def andT {ρ : Type} (x : Option (aR × aH × gM × Nat × Nat)) (k : Option Value → aH → gM → Nat → Nat → Option ρ) : Option ρ := match x with
  | some (.inl v, sh, m, c, s) => k v sh m c s
  | _ => none
theorem andT_spec {ρ : Type} {x : Option (aR × aH × gM × Nat × Nat)} {k : Option Value → aH → gM → Nat → Nat → Option ρ} {y : ρ} (h : andT x k = some y) : ∃ v sh m c1 s1, x = some (.inl v, sh, m, c1, s1) ∧ k v sh m c1 s1 = some y := by
  unfold andT at h
  split at h
  · next v sh m c1 s1 => exact ⟨v, sh, m, c1, s1, rfl, h⟩
  · cases h
/-- a stretch of one row written over another's -/
def gcp (g : List (Nat × Nat × Int32)) (i j sp dp : Nat) : Nat → List (Nat × Nat × Int32)
  | 0 => g
  | n + 1 => gp (fun y => decide (y = 0)) (gcp g i j sp dp n) j (dp + n) (gk 0 g i (sp + n))
theorem gcp_spec (g : List (Nat × Nat × Int32)) (i j sp dp a c : Nat) : ∀ n : Nat, gk 0 (gcp g i j sp dp n) a c = if a = j ∧ (dp ≤ c ∧ c < dp + n) then gk 0 g i (sp + (c - dp)) else gk 0 g a c
  | 0 => by
    rw [if_neg (by omega)]
    rfl
  | n + 1 => by
    show gk 0 (gp _ _ _ _ _) a c = _
    rw [gk_gp (fun h => by simpa using h)]
    have ih := gcp_spec g i j sp dp a c n
    simp only [upd2]
    by_cases h1 : a = j
    · by_cases h2 : c = dp + n
      · subst h2
        rw [if_pos h1, if_pos rfl, if_pos ⟨h1, by omega⟩]
        congr 1
        omega
      · rw [if_pos h1, if_neg h2, ih]
        by_cases h3 : dp ≤ c ∧ c < dp + n
        · rw [if_pos ⟨h1, h3⟩, if_pos ⟨h1, by omega⟩]
        · rw [if_neg (fun h => h3 h.2), if_neg (fun h => h3 (by omega))]
    · rw [if_neg h1, ih, if_neg (fun h => h1 h.1), if_neg (fun h => h1 h.1)]
def mkF (mk : Nat → Nat → Bool) (i j sp dp : Nat) : Nat → Bool
  | 0 => true
  | n + 1 => (!mk i (sp + n) && !mk j (dp + n)) && mkF mk i j sp dp n
theorem mkF_spec {mk : Nat → Nat → Bool} {i j sp dp : Nat} : ∀ {n : Nat}, mkF mk i j sp dp n = true → ∀ k, k < n → mk i (sp + k) = false ∧ mk j (dp + k) = false
  | 0, _, k, hk => by omega
  | n + 1, h, k, hk => by
    simp only [mkF, Bool.and_eq_true, Bool.not_eq_true'] at h
    by_cases e : k = n
    · subst e
      exact h.1
    · exact mkF_spec h.2 k (by omega)
theorem gcp_dO {ov : Nat → Nat → Int32} {mk : Nat → Nat → Bool} {m : gM} {i j sp dp n : Nat} (h : mkF mk i j sp dp n = true) : dO ov mk (gcp m.1 i j sp dp n, m.2) = acpy (dO ov mk m) i j sp dp n := by
  simp only [dO, acpy]
  congr 1
  funext a c
  rw [gcp_spec]
  by_cases h1 : a = j
  · subst h1
    simp only [va_cpy, if_true]
    by_cases h3 : dp ≤ c ∧ c < dp + n
    · have h4 := mkF_spec h (c - dp) (by omega)
      have e1 : dp + (c - dp) = c := by omega
      rw [e1] at h4
      simp [h3, h4.1, h4.2]
    · simp [h3]
  · simp [h1]
def axY {ρ : Type} (fc : aF) (kk : aN ρ) (g : aPg) (mk : Nat → Nat → Bool) (id pc : Nat) (lv : List (Nat × Value)) (st : List Value) (sh : aH) (m : gM) (c s : Nat) : Option ρ := match st with
  | .int k :: .int dp :: .ref j :: .int sp :: .ref i :: st' => (match shA sh i .int with
    | some n0 => (match shA sh j .int with
      | some n1 => (bif (!decide (sp < 0) && (!decide (dp < 0) && (!decide (k < 0) && (Nat.ble (sp.toNatClampNeg + k.toNatClampNeg) n0 && (Nat.ble (dp.toNatClampNeg + k.toNatClampNeg) n1 && (Nat.ble 1 (iF (pI g id)) && (Nat.ble (cats st' + 18) (iW (pI g id)) && mkF mk i j sp.toNatClampNeg dp.toNatClampNeg k.toNatClampNeg))))))) then kk (pc + 3) lv st' sh (gcp m.1 i j sp.toNatClampNeg dp.toNatClampNeg k.toNatClampNeg, m.2) c s else none)
      | none => none)
    | none => none)
  | _ => none
def axI {ρ : Type} (fc : aF) (kk : aN ρ) (rt : aT ρ) (g : aPg) (sc : aSc) (mk : Nat → Nat → Bool) (id pc : Nat) (i : Instr) (len : Nat) (lv : List (Nat × Value)) (st : List Value) (sh : aH) (m : gM) (c s : Nat) : Option ρ :=
  match i with
  | .ireturn => (match st with | [.int x] => (bif Nat.beq len 1 && retI (iR (pI g id)) x then rt (.inl (some (.int x))) sh m c s else none) | _ => none)
  | .lreturn => (match st with | [.long x] => (bif Nat.beq len 1 && decide (iR (pI g id) = some .long) then rt (.inl (some (.long x))) sh m c s else none) | _ => none)
  | .return_ => (match st with | [] => (bif Nat.beq len 1 && decide (iR (pI g id) = none) then rt (.inl none) sh m c s else none) | _ => none)
  | .invokevirtual q => (match pM g (pO g id) q with
    | some (jd, kd, np) => (match st.drop np with
      | .ref j :: st' => (bif Nat.beq len 3 && (Nat.beq kd 0 && (Nat.beq (st.take np).length np && (shO sh j (pN g jd) && (room g id jd && (Nat.ble (cats st') 8 && Nat.ble (lg_sl (.ref j :: (st.take np).reverse)).length (iL (pI g jd))))))) then andT (fc jd 0 (lv_args 0 (.ref j :: (st.take np).reverse)) [] sh m c s) (fun v sh' m' c' s' => kk (pc + 3) lv (v.toList ++ st') sh' m' c' s') else none)
      | _ => none)
    | none => none)
  | .invokestatic q => (match pM g (pO g id) q with
    | some (jd, kd, np) => (bif Nat.beq len 3 && Nat.beq kd 5 then axY fc kk g mk id pc lv st sh m c s
      else bif Nat.beq len 3 && ((Nat.beq kd 1 || Nat.beq kd 6) && (Nat.beq (st.take np).length np && (room g id jd && (Nat.ble (cats (st.drop np)) 8 && Nat.ble (lg_sl (st.take np).reverse).length (iL (pI g jd)))))) then andT (fc jd 0 (lv_args 0 (st.take np).reverse) [] sh m c s) (fun v sh' m' c' s' => kk (pc + 3) lv (v.toList ++ st.drop np) sh' m' c' s') else none)
    | none => none)
  | .invokespecial q => (match pM g (pO g id) q with
    | some (jd, kd, np) => (match st.drop np with
      | .ref j :: st' => (bif Nat.beq len 3 && Nat.beq kd 4 then (bif Nat.beq np 0 && (Nat.ble 1 (iF (pI g id)) && Nat.ble (cats st' + 12) (iW (pI g id))) then kk (pc + 3) lv st' sh m c s else none)
        else (bif Nat.beq len 3 && ((Nat.beq kd 2 || Nat.beq kd 3) && (Nat.beq (st.take np).length np && (room g id jd && (Nat.ble (cats st') 8 && Nat.ble (lg_sl (.ref j :: (st.take np).reverse)).length (iL (pI g jd)))))) then andT (fc jd 0 (lv_args 0 (.ref j :: (st.take np).reverse)) [] sh m c s) (fun v sh' m' c' s' => kk (pc + 3) lv (v.toList ++ st') sh' m' c' s') else none))
      | _ => none)
    | none => none)
  | i => (match a2 g sc mk id pc i len lv st sh m with
    | some (pc', lv', st', sh', m', dc, ds) => kk pc' lv' st' sh' m' (c + dc) (s + ds)
    | none => none)
noncomputable def ax (g : aPg) (mk : Nat → Nat → Bool) (n : Nat) : aF := Nat.rec (motive := fun _ => aF) (fun _ _ _ _ _ _ _ _ => none) (fun _ ih id pc lv st sh m c s => match pT g id pc with
  | some (i, len) => axI ih (ih id) (fun r sh m c s => some (r, sh, m, c, s)) g scN mk id pc i len lv st sh m c s
  | none => none) n
/-- a method's own steps, to a place: its calls are runs of at most nf steps -/
noncomputable def aU (g : aPg) (sc : aSc) (mk : Nat → Nat → Bool) (nf id stop : Nat) (n : Nat) : aN aK := Nat.rec (motive := fun _ => aN aK) (fun _ _ _ _ _ _ _ => none) (fun _ ih pc lv st sh m c s => match Nat.beq pc stop with
  | true => some (pc, lv, st, sh, m, c, s)
  | false => (match pT g id pc with
    | some (i, len) => axI (ax g mk nf) ih (fun _ _ _ _ _ => none) g sc mk id pc i len lv st sh m c s
    | none => none)) n
/-- a method that reads the script, to its end -/
noncomputable def aV (g : aPg) (sc : aSc) (mk : Nat → Nat → Bool) (nf id : Nat) (n : Nat) : aN (aR × aH × gM × Nat × Nat) := Nat.rec (motive := fun _ => aN (aR × aH × gM × Nat × Nat)) (fun _ _ _ _ _ _ _ => none) (fun _ ih pc lv st sh m c s => match pT g id pc with
  | some (i, len) => axI (ax g mk nf) ih (fun r sh m c s => some (r, sh, m, c, s)) g sc mk id pc i len lv st sh m c s
  | none => none) n
/-- what a run says -/
def axG (l : Launch) (g : aPg) (mk : Nat → Nat → Bool) (ov : Nat → Nat → Int32) (f : aF) : Prop := ∀ (id pc : Nat) (lv : List (Nat × Value)) (st : List Value) (sh : aH) (m : gM) (r : aR) (sh' : aH) (m' : gM) (c s c' s' : Nat), f id pc lv st sh m c s = some (r, sh', m', c', s') → (∃ v, r = .inl v) ∧ ∃ dc ds : Nat, c' = c + dc ∧ s' = s + ds ∧ ∀ (Γ : aG → Prop) (P : aP), P r sh' (dO ov mk m') → AW (l, Γ) (pI g id) P dc ds pc lv st sh (dO ov mk m)
theorem ax_AC {l : Launch} {g : aPg} {mk : Nat → Nat → Bool} {ov : Nat → Nat → Int32} {f : aF} (hl0 : l.stackTraces = false) (hf : axG l g mk ov f) {jd : Nat} (ho : okI (pI g jd)) {av : List Value} {sh sh' : aH} {m m' : gM} {v : Option Value} {c s c' s' : Nat} (h : f jd 0 (lv_args 0 av) [] sh m c s = some (.inl v, sh', m', c', s')) (hlen : (lg_sl av).length ≤ iL (pI g jd)) :
    ∃ dc ds : Nat, c' = c + dc ∧ s' = s + ds ∧ AC l (pI g jd) (fun r sh2 M2 => r = .inl v ∧ sh2 = sh' ∧ M2 = dO ov mk m') dc ds av sh (dO ov mk m) := by
  obtain ⟨o1, o2, o3⟩ := ho
  obtain ⟨-, dc, ds, e1, e2, k⟩ := hf _ _ _ _ _ _ _ _ _ _ _ _ _ h
  exact ⟨dc, ds, e1, e2, AC.of hl0 o1 o2 o3 hlen (k _ _ ⟨rfl, rfl, rfl⟩)⟩
theorem rev_take {st : List Value} {np : Nat} : (st.take np).reverse.reverse ++ st.drop np = st := by
  rw [List.reverse_reverse, List.take_append_drop]
/-- one step: it goes on somewhere, or it ends -/
def stG (l : Launch) (g : aPg) (sc : aSc) (mk : Nat → Nat → Bool) (ov : Nat → Nat → Int32) (id pc : Nat) (lv : List (Nat × Value)) (st : List Value) (sh : aH) (m : gM) (c s : Nat) {ρ : Type} (kk : aN ρ) (rt : aT ρ) (y : ρ) : Prop :=
  (∃ (pc' : Nat) (lv' : List (Nat × Value)) (st' : List Value) (sh' : aH) (m' : gM) (dc ds : Nat), kk pc' lv' st' sh' m' (c + dc) (s + ds) = some y ∧ ∀ (Γ : aG → Prop) (P : aP) (kc ks : Nat), (∀ G, Γ G → scOk sc G) → AW (l, Γ) (pI g id) P kc ks pc' lv' st' sh' (dO ov mk m') → AW (l, Γ) (pI g id) P (kc + dc) (ks + ds) pc lv st sh (dO ov mk m)) ∨
  (∃ v : Option Value, rt (.inl v) sh m c s = some y ∧ ∀ (Γ : aG → Prop) (P : aP), P (.inl v) sh (dO ov mk m) → AW (l, Γ) (pI g id) P 0 0 pc lv st sh (dO ov mk m))
section AXS
variable {l : Launch} {g : aPg} {sc : aSc} {mk : Nat → Nat → Bool} {ov : Nat → Nat → Int32} {f : aF} {ρ : Type} {kk : aN ρ} {rt : aT ρ} {y : ρ} {id pc len : Nat} {lv : List (Nat × Value)} {st : List Value} {sh : aH} {m : gM} {c s : Nat}
theorem axV_ok (G : pgOk g) (hl0 : l.stackTraces = false) (hf : axG l g mk ov f) {q : Nat} (hd : decode (iC (pI g id)) pc = .ok (.invokevirtual q, len)) (h : axI f kk rt g sc mk id pc (.invokevirtual q) len lv st sh m c s = some y) : stG l g sc mk ov id pc lv st sh m c s kk rt y := by
  simp only [axI] at h
  split at h
  · next jd kd np hm =>
      split at h
      · next j st' hst =>
          replace h := bif_some2 h
          obtain ⟨h1, h⟩ := h
          simp only [Bool.and_eq_true] at h1
          obtain ⟨h1, h2, h3, h4, h5, h6, h7⟩ := h1
          have e1 := Nat.eq_of_beq_eq_true h1
          subst e1
          have e2 := Nat.eq_of_beq_eq_true h2
          have e3 := Nat.eq_of_beq_eq_true h3
          obtain ⟨v, sh1, m1, c1, s1, k1, k2⟩ := andT_spec h
          obtain ⟨w1, w2, ⟨w, hq, hqc⟩, w4⟩ := (G.2.2.1 _ _ _ _ _ hm).1 e2
          obtain ⟨c3, s3, rfl, rfl, hAC⟩ := ax_AC hl0 hf w4 k1 (Nat.le_of_ble_eq_true h7)
          refine Or.inl ⟨_, _, _, _, _, c3, s3, k2, fun Γ P kc ks hsc hr => ?_⟩
          have hsplit : (st.take np).reverse.reverse ++ .ref j :: st' = st := by rw [← hst]; exact rev_take
          have hlen : (st.take np).reverse.length = np := by rw [List.length_reverse]; exact e3
          have hk := AW.callV (l := (l, Γ)) (mj := pI g jd) (as := (st.take np).reverse) (st := st') (P := P) (kc := kc) (ks := ks) (lv := lv) (P1 := (fun r sh2 M2 => r = .inl v ∧ sh2 = sh1 ∧ M2 = dO ov mk m1)) hd (shO_spec h4) hq hqc w1 ⟨by rw [hlen]; exact w2, room_spec h5⟩ (Nat.le_of_ble_eq_true h6) hAC
            (fun v' sh2 M2 hp => by
              obtain ⟨p1, p2, p3⟩ := hp
              cases p1
              subst p2
              subst p3
              exact hr) (fun X sh2 M2 hp => by cases hp.1)
          rw [hsplit] at hk
          exact hk
      · cases h
  · cases h
theorem axS_ok (G : pgOk g) (hl0 : l.stackTraces = false) (hf : axG l g mk ov f) {q : Nat} (hd : decode (iC (pI g id)) pc = .ok (.invokestatic q, len)) (h : axI f kk rt g sc mk id pc (.invokestatic q) len lv st sh m c s = some y) : stG l g sc mk ov id pc lv st sh m c s kk rt y := by
  simp only [axI] at h
  split at h
  · next jd kd np hm =>
      cases hb : (Nat.beq len 3 && Nat.beq kd 5) with
      | true =>
        rw [hb] at h
        simp only [cond_true] at h
        simp only [Bool.and_eq_true] at hb
        have e1 := Nat.eq_of_beq_eq_true hb.1
        subst e1
        have hY := (G.2.2.1 _ _ _ _ _ hm).2.2.2.2.2.1 (Nat.eq_of_beq_eq_true hb.2)
        unfold axY at h
        split at h
        · split at h
          · next n0 he0 =>
              split at h
              · next n1 he1 =>
                  replace h := bif_some2 h
                  obtain ⟨h1, h⟩ := h
                  simp only [Bool.and_eq_true, Bool.not_eq_true', decide_eq_false_iff_not] at h1
                  obtain ⟨q1, q2, q3, q4, q5, q6, q7, q8⟩ := h1
                  refine Or.inl ⟨_, _, _, _, _, 0, 0, h, fun Γ P kc ks hsc hk => ?_⟩
                  rw [gcp_dO q8] at hk
                  exact AW.copyi hd hY (shA_spec he0) (shA_spec he1) q1 q2 q3 (Nat.le_of_ble_eq_true q4) (Nat.le_of_ble_eq_true q5) (Nat.le_of_ble_eq_true q6) (Nat.le_of_ble_eq_true q7) hk
              · cases h
          · cases h
        · cases h
      | false =>
        rw [hb] at h
        simp only [cond_false] at h
        replace h := bif_some2 h
        obtain ⟨h1, h⟩ := h
        simp only [Bool.and_eq_true] at h1
        obtain ⟨h1, h2, h3, h5, h6, h7⟩ := h1
        have e1 := Nat.eq_of_beq_eq_true h1
        subst e1
        have e3 := Nat.eq_of_beq_eq_true h3
        obtain ⟨v, sh1, m1, c1, s1, k1, k2⟩ := andT_spec h
        have hsplit : (st.take np).reverse.reverse ++ st.drop np = st := rev_take
        have hlen : (st.take np).reverse.length = np := by rw [List.length_reverse]; exact e3
        rw [Bool.or_eq_true] at h2
        rcases h2 with h2 | h2
        · have e2 := Nat.eq_of_beq_eq_true h2
          obtain ⟨w1, w2, w4⟩ := (G.2.2.1 _ _ _ _ _ hm).2.1 e2
          obtain ⟨c3, s3, rfl, rfl, hAC⟩ := ax_AC hl0 hf w4 k1 (Nat.le_of_ble_eq_true h7)
          refine Or.inl ⟨_, _, _, _, _, c3, s3, k2, fun Γ P kc ks hsc hr => ?_⟩
          have hk := AW.callS (l := (l, Γ)) (mj := pI g jd) (as := (st.take np).reverse) (st := st.drop np) (P := P) (kc := kc) (ks := ks) (lv := lv) (P1 := (fun r sh2 M2 => r = .inl v ∧ sh2 = sh1 ∧ M2 = dO ov mk m1)) hd w1 ⟨by rw [hlen]; exact w2, room_spec h5⟩ (Nat.le_of_ble_eq_true h6) hAC
            (fun v' sh2 M2 hp => by
              obtain ⟨p1, p2, p3⟩ := hp
              cases p1
              subst p2
              subst p3
              exact hr) (fun X sh2 M2 hp => by cases hp.1)
          rw [hsplit] at hk
          exact hk
        · have e2 := Nat.eq_of_beq_eq_true h2
          obtain ⟨hh, w1, w2, o1, o2, o3⟩ := (G.2.2.1 _ _ _ _ _ hm).2.2.2.2.2.2 e2
          obtain ⟨-, c3, s3, rfl, rfl, kAW⟩ := hf _ _ _ _ _ _ _ _ _ _ _ _ _ k1
          have hAC : ACH l (pI g jd) hh (fun r sh2 M2 => r = .inl v ∧ sh2 = sh1 ∧ M2 = dO ov mk m1) c3 s3 (st.take np).reverse sh (dO ov mk m) := ACH.of hl0 o1 o2 o3 (Nat.le_of_ble_eq_true h7) (kAW _ _ ⟨rfl, rfl, rfl⟩)
          refine Or.inl ⟨_, _, _, _, _, c3, s3, k2, fun Γ P kc ks hsc hr => ?_⟩
          have hk := AW.callH (l := (l, Γ)) (mj := pI g jd) (as := (st.take np).reverse) (st := st.drop np) (P := P) (kc := kc) (ks := ks) (lv := lv) (P1 := (fun r sh2 M2 => r = .inl v ∧ sh2 = sh1 ∧ M2 = dO ov mk m1)) hd w1 ⟨by rw [hlen]; exact w2, room_spec h5⟩ (Nat.le_of_ble_eq_true h6) hAC
            (fun v' sh2 M2 hp => by
              obtain ⟨p1, p2, p3⟩ := hp
              cases p1
              subst p2
              subst p3
              exact hr) (fun X sh2 M2 hp => by cases hp.1)
          rw [hsplit] at hk
          exact hk
  · cases h
theorem axP_ok (G : pgOk g) (hl0 : l.stackTraces = false) (hf : axG l g mk ov f) {q : Nat} (hd : decode (iC (pI g id)) pc = .ok (.invokespecial q, len)) (h : axI f kk rt g sc mk id pc (.invokespecial q) len lv st sh m c s = some y) : stG l g sc mk ov id pc lv st sh m c s kk rt y := by
  simp only [axI] at h
  split at h
  · next jd kd np hm =>
      split at h
      · next j st' hst =>
          cases hb : (Nat.beq len 3 && Nat.beq kd 4) with
          | true =>
            rw [hb] at h
            simp only [cond_true] at h
            replace h := bif_some2 h
            obtain ⟨h1, h⟩ := h
            simp only [Bool.and_eq_true] at h1 hb
            obtain ⟨h1, h2, h3⟩ := h1
            have e1 := Nat.eq_of_beq_eq_true hb.1
            subst e1
            have e2 := Nat.eq_of_beq_eq_true hb.2
            have e3 := Nat.eq_of_beq_eq_true h1
            subst e3
            obtain ⟨w1, w2, w3⟩ := (G.2.2.1 _ _ _ _ _ hm).2.2.2.2.1 e2
            rw [List.drop_zero] at hst
            subst hst
            exact Or.inl ⟨_, _, _, _, _, 0, 0, h, fun Γ P kc ks hsc hr => AW.obj hd w1 w2 w3 (Nat.le_of_ble_eq_true h2) (Nat.le_of_ble_eq_true h3) hr⟩
          | false =>
            rw [hb] at h
            simp only [cond_false] at h
            replace h := bif_some2 h
            obtain ⟨h1, h⟩ := h
            simp only [Bool.and_eq_true] at h1
            obtain ⟨h1, h2, h3, h5, h6, h7⟩ := h1
            have e1 := Nat.eq_of_beq_eq_true h1
            subst e1
            have e3 := Nat.eq_of_beq_eq_true h3
            obtain ⟨v, sh1, m1, c1, s1, k1, k2⟩ := andT_spec h
            have hsplit : (st.take np).reverse.reverse ++ .ref j :: st' = st := by rw [← hst]; exact rev_take
            have hlen : (st.take np).reverse.length = np := by rw [List.length_reverse]; exact e3
            have key : ∀ (Γ : aG → Prop) (P : aP) (kc ks : Nat), AW (l, Γ) (pI g id) P kc ks (pc + 3) lv (v.toList ++ st') sh1 (dO ov mk m1) → ∀ (v' : Option Value) (sh2 : aH) (M2 : aM), ((fun r sh2 M2 => r = .inl v ∧ sh2 = sh1 ∧ M2 = dO ov mk m1) : aP) (.inl v') sh2 M2 → AW (l, Γ) (pI g id) P kc ks (pc + 3) lv (v'.toList ++ st') sh2 M2 := by
              intro Γ P kc ks hr v' sh2 M2 hp
              obtain ⟨p1, p2, p3⟩ := hp
              cases p1
              subst p2
              subst p3
              exact hr
            have hno : ∀ (X : String) (sh2 : aH) (M2 : aM), ¬ ((fun r sh2 M2 => r = .inl v ∧ sh2 = sh1 ∧ M2 = dO ov mk m1) : aP) (.inr X) sh2 M2 := fun X sh2 M2 hp => by cases hp.1
            rw [Bool.or_eq_true] at h2
            rcases h2 with h2 | h2
            · have e2 := Nat.eq_of_beq_eq_true h2
              obtain ⟨w1, w2, w4⟩ := (G.2.2.1 _ _ _ _ _ hm).2.2.1 e2
              obtain ⟨c3, s3, rfl, rfl, hAC⟩ := ax_AC hl0 hf w4 k1 (Nat.le_of_ble_eq_true h7)
              refine Or.inl ⟨_, _, _, _, _, c3, s3, k2, fun Γ P kc ks hsc hr => ?_⟩
              have hk := AW.callI (l := (l, Γ)) (mj := pI g jd) (as := (st.take np).reverse) (st := st') (P := P) (kc := kc) (ks := ks) (lv := lv) hd w1 ⟨by rw [hlen]; exact w2, room_spec h5⟩ (Nat.le_of_ble_eq_true h6) hAC hno (key Γ P kc ks hr)
              rw [hsplit] at hk
              exact hk
            · have e2 := Nat.eq_of_beq_eq_true h2
              obtain ⟨w1, w2, w4⟩ := (G.2.2.1 _ _ _ _ _ hm).2.2.2.1 e2
              obtain ⟨c3, s3, rfl, rfl, hAC⟩ := ax_AC hl0 hf w4 k1 (Nat.le_of_ble_eq_true h7)
              refine Or.inl ⟨_, _, _, _, _, c3, s3, k2, fun Γ P kc ks hsc hr => ?_⟩
              have hk := AW.callN (l := (l, Γ)) (mj := pI g jd) (as := (st.take np).reverse) (st := st') (P := P) (kc := kc) (ks := ks) (lv := lv) hd w1 ⟨by rw [hlen]; exact w2, room_spec h5⟩ (Nat.le_of_ble_eq_true h6) hAC hno (key Γ P kc ks hr)
              rw [hsplit] at hk
              exact hk
      · cases h
  · cases h
theorem axN_ok (G : pgOk g) {i : Instr} (hd : decode (iC (pI g id)) pc = .ok (i, len)) (h : (match a2 g sc mk id pc i len lv st sh m with | some (pc', lv', st', sh', m', dc, ds) => kk pc' lv' st' sh' m' (c + dc) (s + ds) | none => none) = some y) : stG l g sc mk ov id pc lv st sh m c s kk rt y := by
  split at h
  · next hK => exact Or.inl ⟨_, _, _, _, _, _, _, h, fun Γ P kc ks hsc hr => a2_ok (l := (l, Γ)) (kc := kc) (ks := ks) G hsc hd hK hr⟩
  · cases h
theorem axI_ok (G : pgOk g) (hl0 : l.stackTraces = false) (hf : axG l g mk ov f) {i : Instr} (hd : decode (iC (pI g id)) pc = .ok (i, len)) (h : axI f kk rt g sc mk id pc i len lv st sh m c s = some y) : stG l g sc mk ov id pc lv st sh m c s kk rt y := by
  cases i
  case invokevirtual q => exact axV_ok G hl0 hf hd h
  case invokestatic q => exact axS_ok G hl0 hf hd h
  case invokespecial q => exact axP_ok G hl0 hf hd h
  case ireturn =>
    simp only [axI] at h
    split at h
    · next x =>
        replace h := bif_some2 h
        obtain ⟨h1, h⟩ := h
        rw [Bool.and_eq_true] at h1
        obtain ⟨h1, h2⟩ := h1
        have e1 := Nat.eq_of_beq_eq_true h1
        subst e1
        refine Or.inr ⟨_, h, fun Γ P hP => ?_⟩
        unfold retI at h2
        split at h2
        · next hr => exact AW.iret hd hr hP
        · next hr =>
            refine AW.zret hd hr ?_ hP
            simp only [Bool.or_eq_true, decide_eq_true_eq] at h2
            rcases h2 with rfl | rfl
            · decide +kernel
            · decide +kernel
        · cases h2
    · cases h
  case lreturn =>
    simp only [axI] at h
    split at h
    · next x =>
        replace h := bif_some2 h
        obtain ⟨h1, h⟩ := h
        rw [Bool.and_eq_true] at h1
        obtain ⟨h1, h2⟩ := h1
        have e1 := Nat.eq_of_beq_eq_true h1
        subst e1
        exact Or.inr ⟨_, h, fun Γ P hP => AW.lret hd (by simpa using h2) hP⟩
    · cases h
  case return_ =>
    simp only [axI] at h
    split at h
    · replace h := bif_some2 h
      obtain ⟨h1, h⟩ := h
      rw [Bool.and_eq_true] at h1
      obtain ⟨h1, h2⟩ := h1
      have e1 := Nat.eq_of_beq_eq_true h1
      subst e1
      exact Or.inr ⟨_, h, fun Γ P hP => AW.vret hd (by simpa using h2) hP⟩
    · cases h
  all_goals exact axN_ok G hd h
end AXS
theorem ax_ok {l : Launch} {g : aPg} {mk : Nat → Nat → Bool} {ov : Nat → Nat → Int32} (G : pgOk g) (hl0 : l.stackTraces = false) : ∀ n : Nat, axG l g mk ov (ax g mk n)
  | 0 => fun _ _ _ _ _ _ _ _ _ _ _ _ _ h => by cases h
  | n + 1 => by
    have ih := ax_ok (l := l) (mk := mk) (ov := ov) G hl0 n
    intro id pc lv st sh m r sh' m' c s c' s' h
    have h : (match pT g id pc with | some (i, len) => axI (ax g mk n) (ax g mk n id) (fun r sh m c s => some (r, sh, m, c, s)) g scN mk id pc i len lv st sh m c s | none => none) = some (r, sh', m', c', s') := h
    split at h
    · next i len hT =>
        rcases axI_ok (ov := ov) G hl0 ih (G.1 _ _ _ _ hT) h with ⟨pc', lv', st', sh2, m2, dc, ds, hk, hr⟩ | ⟨v, hk, hr⟩
        · obtain ⟨hv, d1, d2, g1, g2, k⟩ := ih _ _ _ _ _ _ _ _ _ _ _ _ _ hk
          exact ⟨hv, d1 + dc, d2 + ds, by omega, by omega, fun Γ P hP => hr Γ P d1 d2 (fun G _ => scN_ok G) (k Γ P hP)⟩
        · cases hk
          exact ⟨⟨_, rfl⟩, 0, 0, rfl, rfl, hr⟩
    · cases h
theorem aU_ok {l : Launch} {g : aPg} {sc : aSc} {mk : Nat → Nat → Bool} {ov : Nat → Nat → Int32} (G : pgOk g) (hl0 : l.stackTraces = false) {nf id stop : Nat} : ∀ (n pc : Nat) (lv : List (Nat × Value)) (st : List Value) (sh : aH) (m : gM) (c s : Nat) (K : aK), aU g sc mk nf id stop n pc lv st sh m c s = some K →
    ∃ dc ds : Nat, K.2.2.2.2.2.1 = c + dc ∧ K.2.2.2.2.2.2 = s + ds ∧ ∀ (Γ : aG → Prop) (P : aP) (kc ks : Nat), (∀ G, Γ G → scOk sc G) → AW (l, Γ) (pI g id) P kc ks K.1 K.2.1 K.2.2.1 K.2.2.2.1 (dO ov mk K.2.2.2.2.1) → AW (l, Γ) (pI g id) P (kc + dc) (ks + ds) pc lv st sh (dO ov mk m)
  | 0 => fun _ _ _ _ _ _ _ _ h => by cases h
  | n + 1 => by
    intro pc lv st sh m c s K h
    have h : (match Nat.beq pc stop with | true => some (pc, lv, st, sh, m, c, s) | false => (match pT g id pc with | some (i, len) => axI (ax g mk nf) (aU g sc mk nf id stop n) (fun _ _ _ _ _ => none) g sc mk id pc i len lv st sh m c s | none => none)) = some K := h
    split at h
    · cases h
      exact ⟨0, 0, rfl, rfl, fun Γ P kc ks _ k => k⟩
    · split at h
      · next i len hT =>
          rcases axI_ok (ov := ov) G hl0 (ax_ok G hl0 nf) (G.1 _ _ _ _ hT) h with ⟨pc', lv', st', sh2, m2, dc, ds, hk, hr⟩ | ⟨v, hk, hr⟩
          · obtain ⟨d1, d2, g1, g2, k⟩ := aU_ok G hl0 n _ _ _ _ _ _ _ _ hk
            exact ⟨d1 + dc, d2 + ds, by omega, by omega, fun Γ P kc ks hsc hP => by
              have h9 := hr Γ P (kc + d1) (ks + d2) hsc (k Γ P kc ks hsc hP)
              rw [Nat.add_assoc, Nat.add_assoc] at h9
              exact h9⟩
          · cases hk
      · cases h
theorem aV_ok {l : Launch} {g : aPg} {sc : aSc} {mk : Nat → Nat → Bool} {ov : Nat → Nat → Int32} (G : pgOk g) (hl0 : l.stackTraces = false) {nf id : Nat} : ∀ (n pc : Nat) (lv : List (Nat × Value)) (st : List Value) (sh : aH) (m : gM) (c s : Nat) (r : aR) (sh' : aH) (m' : gM) (c' s' : Nat), aV g sc mk nf id n pc lv st sh m c s = some (r, sh', m', c', s') →
    ∃ dc ds : Nat, c' = c + dc ∧ s' = s + ds ∧ ∀ (Γ : aG → Prop) (P : aP), (∀ G, Γ G → scOk sc G) → P r sh' (dO ov mk m') → AW (l, Γ) (pI g id) P dc ds pc lv st sh (dO ov mk m)
  | 0 => fun _ _ _ _ _ _ _ _ _ _ _ _ h => by cases h
  | n + 1 => by
    intro pc lv st sh m c s r sh' m' c' s' h
    have h : (match pT g id pc with | some (i, len) => axI (ax g mk nf) (aV g sc mk nf id n) (fun r sh m c s => some (r, sh, m, c, s)) g sc mk id pc i len lv st sh m c s | none => none) = some (r, sh', m', c', s') := h
    split at h
    · next i len hT =>
        rcases axI_ok (ov := ov) G hl0 (ax_ok G hl0 nf) (G.1 _ _ _ _ hT) h with ⟨pc', lv', st', sh2, m2, dc, ds, hk, hr⟩ | ⟨v, hk, hr⟩
        · obtain ⟨d1, d2, g1, g2, k⟩ := aV_ok G hl0 n _ _ _ _ _ _ _ _ _ _ _ _ hk
          exact ⟨d1 + dc, d2 + ds, by omega, by omega, fun Γ P hsc hP => hr Γ P d1 d2 hsc (k Γ P hsc hP)⟩
        · cases hk
          exact ⟨0, 0, rfl, rfl, fun Γ P _ hP => hr Γ P hP⟩
    · cases h
def eqS : aS → aS → Bool
  | .inl a, .inl b => Nat.beq a b
  | .inr a, .inr b => decide (a.1 = b.1) && Nat.beq a.2 b.2
  | _, _ => false
theorem eqS_spec : ∀ {a b : aS}, eqS a b = true → a = b
  | .inl a, .inl b, h => by rw [Nat.eq_of_beq_eq_true h]
  | .inr a, .inr b, h => by
    simp only [eqS, Bool.and_eq_true, decide_eq_true_eq] at h
    obtain ⟨h1, h2⟩ := h
    have h3 := Nat.eq_of_beq_eq_true h2
    obtain ⟨a1, a2⟩ := a
    obtain ⟨b1, b2⟩ := b
    simp only at h1 h3
    rw [h1, h3]
  | .inl _, .inr _, h => by cases h
  | .inr _, .inl _, h => by cases h
def eqL {α : Type} (f : α → α → Bool) : List α → List α → Bool
  | [], [] => true
  | a :: l, b :: r => f a b && eqL f l r
  | _, _ => false
theorem eqL_spec {α : Type} {f : α → α → Bool} (hf : ∀ {a b : α}, f a b = true → a = b) : ∀ {l r : List α}, eqL f l r = true → l = r
  | [], [], _ => rfl
  | a :: l, b :: r, h => by
    simp only [eqL, Bool.and_eq_true] at h
    rw [hf h.1, eqL_spec hf h.2]
  | [], _ :: _, h => by cases h
  | _ :: _, [], h => by cases h
def eq3 {α : Type} (f : α → α → Bool) (a b : Nat × Nat × α) : Bool := Nat.beq a.1 b.1 && (Nat.beq a.2.1 b.2.1 && f a.2.2 b.2.2)
theorem eq3_spec {α : Type} {f : α → α → Bool} (hf : ∀ {a b : α}, f a b = true → a = b) {a b : Nat × Nat × α} (h : eq3 f a b = true) : a = b := by
  obtain ⟨a1, a2, a3⟩ := a
  obtain ⟨b1, b2, b3⟩ := b
  simp only [eq3, Bool.and_eq_true] at h
  obtain ⟨h1, h2, h3⟩ := h
  rw [Nat.eq_of_beq_eq_true h1, Nat.eq_of_beq_eq_true h2, hf h3]
/-- does a run end so -/
def eqR (x : Option (aR × aH × gM × Nat × Nat)) (v : Option Value) (sh : aH) (m : gM) (c s : Nat) : Bool := match x with
  | some (.inl v', sh', m', c', s') => decide (v' = v) && (decide (sh'.1 = sh.1) && (eqL eqS sh'.2 sh.2 && (eqL (eq3 (fun a b => decide (a = b))) m'.1 m.1 && (eqL (eq3 (fun a b => decide (a = b))) m'.2.1 m.2.1 && (eqL (eq3 Nat.beq) m'.2.2 m.2.2 && (Nat.beq c' c && Nat.beq s' s))))))
  | _ => false
theorem eqR_spec {x : Option (aR × aH × gM × Nat × Nat)} {v : Option Value} {sh : aH} {m : gM} {c s : Nat} (h : eqR x v sh m c s = true) : x = some (.inl v, sh, m, c, s) := by
  unfold eqR at h
  split at h
  · next v' sh' m' c' s' =>
      simp only [Bool.and_eq_true, decide_eq_true_eq] at h
      obtain ⟨h1, h2, h3, h4, h5, h6, h7, h8⟩ := h
      obtain ⟨a1, a2⟩ := sh
      obtain ⟨b1, b2⟩ := sh'
      obtain ⟨d1, d2, d3⟩ := m
      obtain ⟨e1, e2, e3⟩ := m'
      have g2 : b1 = a1 := h2
      have g3 : b2 = a2 := eqL_spec eqS_spec h3
      have g4 : e1 = d1 := eqL_spec (eq3_spec (fun h => by simpa using h)) h4
      have g5 : e2 = d2 := eqL_spec (eq3_spec (fun h => by simpa using h)) h5
      have g6 : e3 = d3 := eqL_spec (eq3_spec Nat.eq_of_beq_eq_true) h6
      rw [h1, g2, g3, g4, g5, g6, Nat.eq_of_beq_eq_true h7, Nat.eq_of_beq_eq_true h8]
  · cases h
