/-! runs: calls and returns -/
abbrev aF : Type := Nat → Nat → List (Nat × Value) → List Value → aH → gM → Nat → Nat → Option (aR × aH × gM × Nat × Nat)
def room (g : aPg) (id jd : Nat) : Bool := Nat.ble (iF (pI g jd) + 1) (iF (pI g id)) && Nat.ble (8 + (iL (pI g jd) + 11) + iW (pI g jd)) (iW (pI g id))
theorem room_spec {g : aPg} {id jd : Nat} (h : room g id jd = true) : iF (pI g jd) + 1 ≤ iF (pI g id) ∧ 8 + (iL (pI g jd) + 11) + iW (pI g jd) ≤ iW (pI g id) := by
  rw [room, Bool.and_eq_true] at h
  exact ⟨Nat.le_of_ble_eq_true h.1, Nat.le_of_ble_eq_true h.2⟩
def cats (st : List Value) : Nat := (st.map fun v => v.category).sum
def retI (ret : Option FieldType) (x : Int32) : Bool := match ret with
  | some .int => true
  | some .boolean => decide (x = 0) || decide (x = 1)
  | _ => false
/-- what comes behind a call that has returned -/
def andT (x : Option (aR × aH × gM × Nat × Nat)) (k : Option Value → aH → gM → Nat → Nat → Option (aR × aH × gM × Nat × Nat)) : Option (aR × aH × gM × Nat × Nat) := match x with
  | some (.inl v, sh, m, c, s) => k v sh m c s
  | _ => none
theorem andT_spec {x : Option (aR × aH × gM × Nat × Nat)} {k : Option Value → aH → gM → Nat → Nat → Option (aR × aH × gM × Nat × Nat)} {y : aR × aH × gM × Nat × Nat} (h : andT x k = some y) : ∃ v sh m c1 s1, x = some (.inl v, sh, m, c1, s1) ∧ k v sh m c1 s1 = some y := by
  unfold andT at h
  split at h
  · next v sh m c1 s1 => exact ⟨v, sh, m, c1, s1, rfl, h⟩
  · cases h
def axI (ih : aF) (g : aPg) (id pc : Nat) (i : Instr) (len : Nat) (lv : List (Nat × Value)) (st : List Value) (sh : aH) (m : gM) (c s : Nat) : Option (aR × aH × gM × Nat × Nat) :=
  match i with
  | .ireturn => (match st with | [.int x] => (bif Nat.beq len 1 && retI (iR (pI g id)) x then some (.inl (some (.int x)), sh, m, c, s) else none) | _ => none)
  | .lreturn => (match st with | [.long x] => (bif Nat.beq len 1 && decide (iR (pI g id) = some .long) then some (.inl (some (.long x)), sh, m, c, s) else none) | _ => none)
  | .return_ => (match st with | [] => (bif Nat.beq len 1 && decide (iR (pI g id) = none) then some (.inl none, sh, m, c, s) else none) | _ => none)
  | .invokevirtual q => (match pM g (pO g id) q with
    | some (jd, kd, np) => (match st.drop np with
      | .ref j :: st' => (bif Nat.beq len 3 && (Nat.beq kd 0 && (Nat.beq (st.take np).length np && (shO sh j (pN g jd) && (room g id jd && (Nat.ble (cats st') 8 && Nat.ble (lg_sl (.ref j :: (st.take np).reverse)).length (iL (pI g jd))))))) then andT (ih jd 0 (lv_args 0 (.ref j :: (st.take np).reverse)) [] sh m c s) (fun v sh' m' c' s' => ih id (pc + 3) lv (v.toList ++ st') sh' m' c' s') else none)
      | _ => none)
    | none => none)
  | .invokestatic q => (match pM g (pO g id) q with
    | some (jd, kd, np) => (bif Nat.beq len 3 && (Nat.beq kd 1 && (Nat.beq (st.take np).length np && (room g id jd && (Nat.ble (cats (st.drop np)) 8 && Nat.ble (lg_sl (st.take np).reverse).length (iL (pI g jd)))))) then andT (ih jd 0 (lv_args 0 (st.take np).reverse) [] sh m c s) (fun v sh' m' c' s' => ih id (pc + 3) lv (v.toList ++ st.drop np) sh' m' c' s') else none)
    | none => none)
  | .invokespecial q => (match pM g (pO g id) q with
    | some (jd, kd, np) => (match st.drop np with
      | .ref j :: st' => (bif Nat.beq len 3 && Nat.beq kd 4 then (bif Nat.beq np 0 && (Nat.ble 1 (iF (pI g id)) && Nat.ble (cats st' + 12) (iW (pI g id))) then ih id (pc + 3) lv st' sh m c s else none)
        else (bif Nat.beq len 3 && ((Nat.beq kd 2 || Nat.beq kd 3) && (Nat.beq (st.take np).length np && (room g id jd && (Nat.ble (cats st') 8 && Nat.ble (lg_sl (.ref j :: (st.take np).reverse)).length (iL (pI g jd)))))) then andT (ih jd 0 (lv_args 0 (.ref j :: (st.take np).reverse)) [] sh m c s) (fun v sh' m' c' s' => ih id (pc + 3) lv (v.toList ++ st') sh' m' c' s') else none))
      | _ => none)
    | none => none)
  | i => (match a2 g id pc i len lv st sh m with
    | some (pc', lv', st', sh', m', dc, ds) => ih id pc' lv' st' sh' m' (c + dc) (s + ds)
    | none => none)
noncomputable def ax (g : aPg) (n : Nat) : aF := Nat.rec (motive := fun _ => aF) (fun _ _ _ _ _ _ _ _ => none) (fun _ ih id pc lv st sh m c s => match pT g id pc with
  | some (i, len) => axI ih g id pc i len lv st sh m c s
  | none => none) n
/-- what a run says -/
def axG (l : Launch) (g : aPg) (f : aF) : Prop := ∀ (id pc : Nat) (lv : List (Nat × Value)) (st : List Value) (sh : aH) (m : gM) (r : aR) (sh' : aH) (m' : gM) (c s c' s' : Nat), f id pc lv st sh m c s = some (r, sh', m', c', s') → (∃ v, r = .inl v) ∧ ∃ dc ds : Nat, c' = c + dc ∧ s' = s + ds ∧ ∀ P : aP, P r sh' (den m') → AW l (pI g id) P dc ds pc lv st sh (den m)
theorem ax_AC {l : Launch} {g : aPg} {f : aF} (G : pgOk g) (hl0 : l.stackTraces = false) (hf : axG l g f) {jd : Nat} {av : List Value} {sh sh' : aH} {m m' : gM} {v : Option Value} {c s c' s' : Nat} (h : f jd 0 (lv_args 0 av) [] sh m c s = some (.inl v, sh', m', c', s')) (hlen : (lg_sl av).length ≤ iL (pI g jd)) :
    ∃ dc ds : Nat, c' = c + dc ∧ s' = s + ds ∧ AC l (pI g jd) (fun r sh2 M2 => r = .inl v ∧ sh2 = sh' ∧ M2 = den m') dc ds av sh (den m) := by
  obtain ⟨o1, o2, o3⟩ := G.2.2.2.2.2.2.1 jd
  obtain ⟨-, dc, ds, e1, e2, k⟩ := hf _ _ _ _ _ _ _ _ _ _ _ _ _ h
  exact ⟨dc, ds, e1, e2, AC.of hl0 o1 o2 o3 hlen (k _ ⟨rfl, rfl, rfl⟩)⟩
theorem rev_take {st : List Value} {np : Nat} : (st.take np).reverse.reverse ++ st.drop np = st := by
  rw [List.reverse_reverse, List.take_append_drop]
section AXS
variable {l : Launch} {g : aPg} {f : aF} {id pc len : Nat} {lv : List (Nat × Value)} {st : List Value} {sh : aH} {m : gM} {r : aR} {sh' : aH} {m' : gM} {c s c' s' : Nat}
theorem axV_ok (G : pgOk g) (hl0 : l.stackTraces = false) (hf : axG l g f) {q : Nat} (hd : decode (iC (pI g id)) pc = .ok (.invokevirtual q, len)) (h : axI f g id pc (.invokevirtual q) len lv st sh m c s = some (r, sh', m', c', s')) : (∃ v, r = .inl v) ∧ ∃ dc ds : Nat, c' = c + dc ∧ s' = s + ds ∧ ∀ P : aP, P r sh' (den m') → AW l (pI g id) P dc ds pc lv st sh (den m) := by
  simp only [axI] at h
  split at h
  · next jd kd np hm =>
      split at h
      · next j st' hst =>
          replace h := bif_some2 h
          obtain ⟨h1, h⟩ := h
          simp only [Bool.and_eq_true] at h1
          obtain ⟨h1, h2, h3, h4, h5, h6, h7⟩ := h1
          have e1 := Nat.eq_of_beq_eq_true h1
          subst e1
          have e2 := Nat.eq_of_beq_eq_true h2
          have e3 := Nat.eq_of_beq_eq_true h3
          obtain ⟨v, sh1, m1, c1, s1, k1, k2⟩ := andT_spec h
          obtain ⟨w1, w2, w3⟩ := (G.2.2.1 _ _ _ _ _ hm).1 e2
          obtain ⟨hv, c2, s2, g1, g2, hr⟩ := hf _ _ _ _ _ _ _ _ _ _ _ _ _ k2
          obtain ⟨c3, s3, g3, g4, hAC⟩ := ax_AC G hl0 hf k1 (Nat.le_of_ble_eq_true h7)
          refine ⟨hv, c2 + c3, s2 + s3, by omega, by omega, fun P hP => ?_⟩
          have hsplit : (st.take np).reverse.reverse ++ .ref j :: st' = st := by rw [← hst]; exact rev_take
          have hlen : (st.take np).reverse.length = np := by rw [List.length_reverse]; exact e3
          have hci := shO_spec h4
          · obtain ⟨w, hq, hqc⟩ := w3
            have hk := AW.callV (mj := pI g jd) (as := (st.take np).reverse) (st := st') (P := P) (kc := c2) (ks := s2) (lv := lv) (P1 := (fun r sh2 M2 => r = .inl v ∧ sh2 = sh1 ∧ M2 = den m1)) hd hci hq hqc w1 ⟨by rw [hlen]; exact w2, room_spec h5⟩ (Nat.le_of_ble_eq_true h6) hAC
              (fun v' sh2 M2 hp => by
                obtain ⟨p1, p2, p3⟩ := hp
                cases p1
                subst p2
                subst p3
                exact hr P hP) (fun X sh2 M2 hp => by cases hp.1)
            rw [hsplit] at hk
            exact hk
      · cases h
  · cases h
theorem axS_ok (G : pgOk g) (hl0 : l.stackTraces = false) (hf : axG l g f) {q : Nat} (hd : decode (iC (pI g id)) pc = .ok (.invokestatic q, len)) (h : axI f g id pc (.invokestatic q) len lv st sh m c s = some (r, sh', m', c', s')) : (∃ v, r = .inl v) ∧ ∃ dc ds : Nat, c' = c + dc ∧ s' = s + ds ∧ ∀ P : aP, P r sh' (den m') → AW l (pI g id) P dc ds pc lv st sh (den m) := by
  simp only [axI] at h
  split at h
  · next jd kd np hm =>
      replace h := bif_some2 h
      obtain ⟨h1, h⟩ := h
      simp only [Bool.and_eq_true] at h1
      obtain ⟨h1, h2, h3, h5, h6, h7⟩ := h1
      have e1 := Nat.eq_of_beq_eq_true h1
      subst e1
      have e2 := Nat.eq_of_beq_eq_true h2
      have e3 := Nat.eq_of_beq_eq_true h3
      obtain ⟨v, sh1, m1, c1, s1, k1, k2⟩ := andT_spec h
      obtain ⟨w1, w2⟩ := (G.2.2.1 _ _ _ _ _ hm).2.1 e2
      obtain ⟨hv, c2, s2, g1, g2, hr⟩ := hf _ _ _ _ _ _ _ _ _ _ _ _ _ k2
      obtain ⟨c3, s3, g3, g4, hAC⟩ := ax_AC G hl0 hf k1 (Nat.le_of_ble_eq_true h7)
      refine ⟨hv, c2 + c3, s2 + s3, by omega, by omega, fun P hP => ?_⟩
      have hsplit : (st.take np).reverse.reverse ++ st.drop np = st := rev_take
      have hlen : (st.take np).reverse.length = np := by rw [List.length_reverse]; exact e3
      have hk := AW.callS (mj := pI g jd) (as := (st.take np).reverse) (st := st.drop np) (P := P) (kc := c2) (ks := s2) (lv := lv) (P1 := (fun r sh2 M2 => r = .inl v ∧ sh2 = sh1 ∧ M2 = den m1)) hd w1 ⟨by rw [hlen]; exact w2, room_spec h5⟩ (Nat.le_of_ble_eq_true h6) hAC
        (fun v' sh2 M2 hp => by
          obtain ⟨p1, p2, p3⟩ := hp
          cases p1
          subst p2
          subst p3
          exact hr P hP) (fun X sh2 M2 hp => by cases hp.1)
      rw [hsplit] at hk
      exact hk
  · cases h
theorem axP_ok (G : pgOk g) (hl0 : l.stackTraces = false) (hf : axG l g f) {q : Nat} (hd : decode (iC (pI g id)) pc = .ok (.invokespecial q, len)) (h : axI f g id pc (.invokespecial q) len lv st sh m c s = some (r, sh', m', c', s')) : (∃ v, r = .inl v) ∧ ∃ dc ds : Nat, c' = c + dc ∧ s' = s + ds ∧ ∀ P : aP, P r sh' (den m') → AW l (pI g id) P dc ds pc lv st sh (den m) := by
  simp only [axI] at h
  split at h
  · next jd kd np hm =>
      split at h
      · next j st' hst =>
          cases hb : (Nat.beq len 3 && Nat.beq kd 4) with
          | true =>
            rw [hb] at h
            simp only [cond_true] at h
            replace h := bif_some2 h
            obtain ⟨h1, h⟩ := h
            simp only [Bool.and_eq_true] at h1 hb
            obtain ⟨h1, h2, h3⟩ := h1
            have e1 := Nat.eq_of_beq_eq_true hb.1
            subst e1
            have e2 := Nat.eq_of_beq_eq_true hb.2
            have e3 := Nat.eq_of_beq_eq_true h1
            subst e3
            obtain ⟨w1, w2, w3⟩ := (G.2.2.1 _ _ _ _ _ hm).2.2.2.2 e2
            obtain ⟨hv, c2, s2, g1, g2, hr⟩ := hf _ _ _ _ _ _ _ _ _ _ _ _ _ h
            refine ⟨hv, c2, s2, g1, g2, fun P hP => ?_⟩
            rw [List.drop_zero] at hst
            subst hst
            exact AW.obj hd w1 w2 w3 (Nat.le_of_ble_eq_true h2) (Nat.le_of_ble_eq_true h3) (hr P hP)
          | false =>
            rw [hb] at h
            simp only [cond_false] at h
            replace h := bif_some2 h
            obtain ⟨h1, h⟩ := h
            simp only [Bool.and_eq_true] at h1
            obtain ⟨h1, h2, h3, h5, h6, h7⟩ := h1
            have e1 := Nat.eq_of_beq_eq_true h1
            subst e1
            have e3 := Nat.eq_of_beq_eq_true h3
            obtain ⟨v, sh1, m1, c1, s1, k1, k2⟩ := andT_spec h
            obtain ⟨hv, c2, s2, g1, g2, hr⟩ := hf _ _ _ _ _ _ _ _ _ _ _ _ _ k2
            obtain ⟨c3, s3, g3, g4, hAC⟩ := ax_AC G hl0 hf k1 (Nat.le_of_ble_eq_true h7)
            refine ⟨hv, c2 + c3, s2 + s3, by omega, by omega, fun P hP => ?_⟩
            have hsplit : (st.take np).reverse.reverse ++ .ref j :: st' = st := by rw [← hst]; exact rev_take
            have hlen : (st.take np).reverse.length = np := by rw [List.length_reverse]; exact e3
            have key : ∀ (v' : Option Value) (sh2 : aH) (M2 : aM), ((fun r sh2 M2 => r = .inl v ∧ sh2 = sh1 ∧ M2 = den m1) : aP) (.inl v') sh2 M2 → AW l (pI g id) P c2 s2 (pc + 3) lv (v'.toList ++ st') sh2 M2 := by
              intro v' sh2 M2 hp
              obtain ⟨p1, p2, p3⟩ := hp
              cases p1
              subst p2
              subst p3
              exact hr P hP
            have hno : ∀ (X : String) (sh2 : aH) (M2 : aM), ¬ ((fun r sh2 M2 => r = .inl v ∧ sh2 = sh1 ∧ M2 = den m1) : aP) (.inr X) sh2 M2 := fun X sh2 M2 hp => by cases hp.1
            rw [Bool.or_eq_true] at h2
            rcases h2 with h2 | h2
            · have e2 := Nat.eq_of_beq_eq_true h2
              obtain ⟨w1, w2⟩ := (G.2.2.1 _ _ _ _ _ hm).2.2.1 e2
              have hk := AW.callI (mj := pI g jd) (as := (st.take np).reverse) (st := st') (P := P) (kc := c2) (ks := s2) (lv := lv) hd w1 ⟨by rw [hlen]; exact w2, room_spec h5⟩ (Nat.le_of_ble_eq_true h6) hAC hno key
              rw [hsplit] at hk
              exact hk
            · have e2 := Nat.eq_of_beq_eq_true h2
              obtain ⟨w1, w2⟩ := (G.2.2.1 _ _ _ _ _ hm).2.2.2.1 e2
              have hk := AW.callN (mj := pI g jd) (as := (st.take np).reverse) (st := st') (P := P) (kc := c2) (ks := s2) (lv := lv) hd w1 ⟨by rw [hlen]; exact w2, room_spec h5⟩ (Nat.le_of_ble_eq_true h6) hAC hno key
              rw [hsplit] at hk
              exact hk
      · cases h
  · cases h
theorem axN_ok (G : pgOk g) (hf : axG l g f) {i : Instr} (hd : decode (iC (pI g id)) pc = .ok (i, len)) (h : (match a2 g id pc i len lv st sh m with | some (pc', lv', st', sh', m', dc, ds) => f id pc' lv' st' sh' m' (c + dc) (s + ds) | none => none) = some (r, sh', m', c', s')) : (∃ v, r = .inl v) ∧ ∃ dc ds : Nat, c' = c + dc ∧ s' = s + ds ∧ ∀ P : aP, P r sh' (den m') → AW l (pI g id) P dc ds pc lv st sh (den m) := by
  split at h
  · next hK =>
      obtain ⟨hv, c2, s2, g1, g2, hr⟩ := hf _ _ _ _ _ _ _ _ _ _ _ _ _ h
      refine ⟨hv, _, _, ?_, ?_, fun P hP => a2_ok (kc := c2) (ks := s2) G hd hK (hr P hP)⟩
      · dsimp only
        omega
      · dsimp only
        omega
  · cases h
theorem axI_ok (G : pgOk g) (hl0 : l.stackTraces = false) (hf : axG l g f) {i : Instr} (hd : decode (iC (pI g id)) pc = .ok (i, len)) (h : axI f g id pc i len lv st sh m c s = some (r, sh', m', c', s')) : (∃ v, r = .inl v) ∧ ∃ dc ds : Nat, c' = c + dc ∧ s' = s + ds ∧ ∀ P : aP, P r sh' (den m') → AW l (pI g id) P dc ds pc lv st sh (den m) := by
  cases i
  case invokevirtual q => exact axV_ok G hl0 hf hd h
  case invokestatic q => exact axS_ok G hl0 hf hd h
  case invokespecial q => exact axP_ok G hl0 hf hd h
  case ireturn =>
    simp only [axI] at h
    split at h
    · next x =>
        replace h := bif_some h
        obtain ⟨h1, h⟩ := h
        rw [Bool.and_eq_true] at h1
        obtain ⟨h1, h2⟩ := h1
        have e1 := Nat.eq_of_beq_eq_true h1
        subst e1
        cases h
        refine ⟨⟨_, rfl⟩, 0, 0, rfl, rfl, fun P hP => ?_⟩
        unfold retI at h2
        split at h2
        · next hr => exact AW.iret hd hr hP
        · next hr =>
            refine AW.zret hd hr ?_ hP
            simp only [Bool.or_eq_true, decide_eq_true_eq] at h2
            rcases h2 with rfl | rfl
            · decide +kernel
            · decide +kernel
        · cases h2
    · cases h
  case lreturn =>
    simp only [axI] at h
    split at h
    · next x =>
        replace h := bif_some h
        obtain ⟨h1, h⟩ := h
        rw [Bool.and_eq_true] at h1
        obtain ⟨h1, h2⟩ := h1
        have e1 := Nat.eq_of_beq_eq_true h1
        subst e1
        cases h
        exact ⟨⟨_, rfl⟩, 0, 0, rfl, rfl, fun P hP => AW.lret hd (by simpa using h2) hP⟩
    · cases h
  case return_ =>
    simp only [axI] at h
    split at h
    · replace h := bif_some h
      obtain ⟨h1, h⟩ := h
      rw [Bool.and_eq_true] at h1
      obtain ⟨h1, h2⟩ := h1
      have e1 := Nat.eq_of_beq_eq_true h1
      subst e1
      cases h
      exact ⟨⟨_, rfl⟩, 0, 0, rfl, rfl, fun P hP => AW.vret hd (by simpa using h2) hP⟩
    · cases h
  all_goals exact axN_ok G hf hd h
end AXS
theorem ax_ok {l : Launch} {g : aPg} (G : pgOk g) (hl0 : l.stackTraces = false) : ∀ n : Nat, axG l g (ax g n)
  | 0 => fun _ _ _ _ _ _ _ _ _ _ _ _ _ h => by cases h
  | n + 1 => by
    have ih := ax_ok (l := l) G hl0 n
    intro id pc lv st sh m r sh' m' c s c' s' h
    have h : (match pT g id pc with | some (i, len) => axI (ax g n) g id pc i len lv st sh m c s | none => none) = some (r, sh', m', c', s') := h
    split at h
    · next i len hT => exact axI_ok G hl0 ih (G.1 _ _ _ _ hT) h
    · cases h
