/-! the helpers and the reference by their answers -/
theorem AC.joinG {l : aL} {id kc ks : Nat} {av : List Value} {M : aM} {Q1 Q2 : Int32 → aM → Prop} (h1 : AC l (pI pg id) (gcI Q1) kc ks av SHF M) (h2 : AC l (pI pg id) (gcI Q2) kc ks av SHF M) {Q : Int32 → aM → Prop} (hq : ∀ y M' M1, Q2 y M' → Q1 y M1 → smeM M1 M' → Q y M') : AC l (pI pg id) (gcI Q) kc ks av SHF M := by
  intro G hΓ p e a1 a2 a3 s m args below b4 b5 b6 b7
  obtain ⟨n, o, c1, c2, c3, c4⟩ := h1 G hΓ p e a1 a2 a3 s m args below b4 b5 b6 b7
  obtain ⟨n', o', d1, d2, d3, d4⟩ := h2 G hΓ p e a1 a2 a3 s m args below b4 b5 b6 b7
  have en : n = n' := by
    rcases Nat.lt_trichotomy n n' with h | h | h
    · exact absurd (d1 n h) c3.not_within
    · exact h
    · exact absurd (c1 n' h) d3.not_within
  subst en
  have eo := c3.outcome_unique d3
  subst eo
  refine ⟨n, o, d1, d2, d3, ?_⟩
  rcases c4 with ⟨⟨v, sh1, M1, e1, e2, e3, e4⟩, e5⟩ | ⟨q, -, E, ce, L, ⟨sh1, M1, f1, -⟩, -⟩
  · rcases d4 with ⟨⟨v', sh2, M2, g1, g2, g3, g4⟩, g5⟩ | ⟨q, -, E, ce, L, ⟨sh2, M2, f1, -⟩, -⟩
    · obtain ⟨rfl, y, e7, e8⟩ := e2
      obtain ⟨rfl, y', g7, g8⟩ := g2
      cases e7
      cases g7
      have ey : y = y' := by
        have z := e1.symm.trans g1
        have z2 : (Outcome.returned (some (Value.int y)) : Outcome) = .returned (some (Value.int y')) := z
        injection z2 with z3
        injection z3 with z4
        exact Value.int.inj z4
      subst ey
      exact Or.inl ⟨⟨_, SHF, M2, g1, ⟨rfl, y, rfl, hq y M2 M1 g8 e8 ⟨G, _, e3, g3⟩⟩, g3, g4⟩, g5⟩
    · obtain ⟨-, y, h, -⟩ := f1
      cases h
  · obtain ⟨-, y, h, -⟩ := f1
    cases h
theorem ACH.joinG {l : aL} {id kc ks : Nat} {av : List Value} {M : aM} {hh : List (Nat × Nat × Nat × Nat)} {Q1 Q2 : Int32 → aM → Prop} (h1 : ACH l (pI pg id) hh (gcI Q1) kc ks av SHF M) (h2 : ACH l (pI pg id) hh (gcI Q2) kc ks av SHF M) {Q : Int32 → aM → Prop} (hq : ∀ y M' M1, Q2 y M' → Q1 y M1 → smeM M1 M' → Q y M') : ACH l (pI pg id) hh (gcI Q) kc ks av SHF M := by
  intro G hΓ p e a1 a2 a3 s m args below b4 b5 b6 b7
  obtain ⟨n, o, c1, c2, c3, c4⟩ := h1 G hΓ p e a1 a2 a3 s m args below b4 b5 b6 b7
  obtain ⟨n', o', d1, d2, d3, d4⟩ := h2 G hΓ p e a1 a2 a3 s m args below b4 b5 b6 b7
  have en : n = n' := by
    rcases Nat.lt_trichotomy n n' with h | h | h
    · exact absurd (d1 n h) c3.not_within
    · exact h
    · exact absurd (c1 n' h) d3.not_within
  subst en
  have eo := c3.outcome_unique d3
  subst eo
  refine ⟨n, o, d1, d2, d3, ?_⟩
  rcases c4 with ⟨⟨v, sh1, M1, e1, e2, e3, e4⟩, e5⟩ | ⟨q, -, E, ce, L, ⟨sh1, M1, f1, -⟩, -⟩
  · rcases d4 with ⟨⟨v', sh2, M2, g1, g2, g3, g4⟩, g5⟩ | ⟨q, -, E, ce, L, ⟨sh2, M2, f1, -⟩, -⟩
    · obtain ⟨rfl, y, e7, e8⟩ := e2
      obtain ⟨rfl, y', g7, g8⟩ := g2
      cases e7
      cases g7
      have ey : y = y' := by
        have z := e1.symm.trans g1
        have z2 : (Outcome.returned (some (Value.int y)) : Outcome) = .returned (some (Value.int y')) := z
        injection z2 with z3
        injection z3 with z4
        exact Value.int.inj z4
      subst ey
      exact Or.inl ⟨⟨_, SHF, M2, g1, ⟨rfl, y, rfl, hq y M2 M1 g8 e8 ⟨G, _, e3, g3⟩⟩, g3, g4⟩, g5⟩
    · obtain ⟨-, y, h, -⟩ := f1
      cases h
  · obtain ⟨-, y, h, -⟩ := f1
    cases h
def QP (o : Option Int32) : Int32 → aM → Prop := fun k M' => (o = none ∧ k = Int32.ofInt 1) ∨ ∃ y : Int32, o = some y ∧ k = Int32.ofInt 0 ∧ M'.2.1 93 0 = y.toInt64
theorem QP_sme {o : Option Int32} {k : Int32} {M1 M : aM} (h : QP o k M1) (hs : smeM M1 M) : QP o k M := h.imp id (fun ⟨y, h1, h2, h3⟩ => ⟨y, h1, h2, (sme_aJ hs (i := 93) (k := 0) (n := 1) rfl (by decide)).symm.trans h3⟩)
theorem mO_sme {o : Option Int32} {z : Int32} {M1 M : aM} (h : mO o z M1) (hs : smeM M1 M) : mO o z M := by
  have e : M.1 58 0 = M1.1 58 0 := (sme_fI hs (i := 58) (ci := 10) (k := 0) rfl rfl (by decide) rfl).symm
  unfold mO at h ⊢
  rw [e]
  exact h
theorem cmpO {o : Option Int32} {k z : Int32} {M2 M4 : aM} (h1 : QP o k M2) (h2 : mO o z M4) (h3 : M4.2.1 93 0 = M2.2.1 93 0) : M4.1 58 0 = k ∧ (k = 0 → M4.2.1 93 0 = z.toInt64) := by
  rcases h1 with ⟨a1, a2⟩ | ⟨y, a1, a2, a3⟩ <;> rcases h2 with ⟨b1, b2⟩ | ⟨v, b1, b2, b3⟩
  · rw [a2, b2]
    exact ⟨rfl, fun h => absurd h (by decide)⟩
  · rw [a1] at b1
    cases b1
  · rw [a1] at b1
    cases b1
  · rw [a1] at b1
    cases b1
    rw [a2, b3, h3, a3, b2]
    exact ⟨rfl, fun _ => rfl⟩
theorem LJ_RM {u : Nat → Nat} {s : Nat} {H : HS} {M : aM} (h : LJ u s H M) : ∀ e ∈ RM, M.2.2 e.1 e.2.1 = e.2.2 := (hoC_J h.2.2.1).elim (fun h e he => rgR_ok h.2 (okR_RR.1 e he)) (fun h e he => rgR_ok h.2 (okR_RRS.1 e he))
theorem hq_88 {l : aL} (hl0 : l.1.stackTraces = false) {M : aM} {x y : Int32} {o : Option Int32} (hc : AC l (pI pg 89) (tcO "java/util/NoSuchElementException" M o) 2 12 [.ref 0, .int x, .int y] SHF M) : ∀ hh, iT (pI pg 88) = tableOf hh → ACH l (pI pg 88) hh (gcI (QP o)) 2 12 [.ref 0, .int x, .int y, .ref 93] SHF M := by
  intro hh hT
  refine ACH.of hl0 (by decide +kernel) (by decide +kernel) hT (Nat.le_of_ble_eq_true rfl) ?_
  refine AW.aload_n (dq rfl) rfl rfl ?_
  refine AW.iconst (dq rfl) ?_
  refine AW.aload_n (dq rfl) rfl rfl ?_
  refine AW.iload_n (dq rfl) rfl ?_
  refine AW.iload_n (dq rfl) rfl ?_
  obtain ⟨w1, w2, ⟨w, hq, hqc⟩, -⟩ := (pg_ok.2.2.1 88 20 89 0 2 rfl).1 rfl
  refine AW.callV (mj := pI pg 89) (as := [.int x, .int y]) (kc := 0) (ks := 0) (P1 := tcO "java/util/NoSuchElementException" M o) (dq rfl) rfl hq hqc w1 ⟨w2, room_spec (g := pg) (id := 88) (jd := 89) (by decide +kernel)⟩ (Nat.le_of_ble_eq_true rfl) hc (fun v sh' M' hp => ?_) (fun X sh' M' hp => ?_)
  · obtain ⟨rfl, rfl, ⟨-, h3⟩ | ⟨z, h2, h3⟩⟩ := hp
    · cases h3
    · cases h3
      refine AW.i2l (dq rfl) ?_
      refine AW.last (dq rfl) rfl (n := 1) (vp_in_nI (n := 0) (by decide) (by decide)) ?_
      refine AW.goto (dq rfl) (tgt := 17) (by decide) ?_
      refine AW.iconst (dq rfl) ?_
      refine AW.iret (dq rfl) rfl ?_
      exact ⟨rfl, _, rfl, Or.inr ⟨z, h2, rfl, rfl⟩⟩
  · obtain ⟨rfl, rfl, ⟨h2, h3⟩ | ⟨z, -, h3⟩⟩ := hp
    · cases h3
      exact pg_ok.2.2.2.2.2.2.2.2 88 5 "java/util/NoSuchElementException" 1 rfl _ _ _ _ _ _ _ ⟨rfl, _, rfl, Or.inl ⟨h2, rfl⟩⟩
    · cases h3
theorem hz_88 {l : aL} (hl0 : l.1.stackTraces = false) {M : aM} {u : Nat → Nat} {s : Nat} {H : HS} (h : LJ u s H M) {x y : Int32} : ∀ hh, iT (pI pg 88) = tableOf hh → ACH l (pI pg 88) hh (gcI (fun k M' => LJ u s H M' ∧ QP (perO H x y) k M')) 2 12 [.ref 0, .int x, .int y, .ref 93] SHF M := fun hh hT => ACH.joinG (hq_88 hl0 (per_c hl0 h.2.1 h.2.2.1) hh hT) (lh_88 hl0 h hh hT) (fun k M' M1 q2 q1 hs => ⟨q2, QP_sme q1 hs⟩)
theorem mz_196 {l : aL} (hl0 : l.1.stackTraces = false) {M : aM} {u : Nat → Nat} {s : Nat} {H : HS} (h : LJ u s H M) {x y : Int32} : AC l (pI pg 196) (gcI (fun z M' => LJ u s H M' ∧ mO (perO H x y) z M' ∧ M'.2.1 93 0 = M.2.1 93 0)) 0 0 [.ref 58, .int x, .int y] SHF M := AC.joinG (fcgI hl0 (mpe_c hl0 (LJ_RM h) h.2.1 h.2.2.2.1) (fun z M' _ q => q)) (lm_196 hl0 h) (fun z M' M1 q2 q1 hs => ⟨q2, mO_sme q1.1 hs, (sme_aJ hs (i := 93) (k := 0) (n := 1) rfl (by decide)).symm.trans (by rw [q1.2])⟩)
theorem hq_91 {l : aL} (hl0 : l.1.stackTraces = false) {M : aM} {x y : Int32} {o : Option Int32} (hc : AC l (pI pg 92) (tcO "java/util/NoSuchElementException" M o) 2 12 [.ref 0, .int x, .int y] SHF M) : ∀ hh, iT (pI pg 91) = tableOf hh → ACH l (pI pg 91) hh (gcI (QP o)) 2 12 [.ref 0, .int x, .int y, .ref 93] SHF M := by
  intro hh hT
  refine ACH.of hl0 (by decide +kernel) (by decide +kernel) hT (Nat.le_of_ble_eq_true rfl) ?_
  refine AW.aload_n (dq rfl) rfl rfl ?_
  refine AW.iconst (dq rfl) ?_
  refine AW.aload_n (dq rfl) rfl rfl ?_
  refine AW.iload_n (dq rfl) rfl ?_
  refine AW.iload_n (dq rfl) rfl ?_
  obtain ⟨w1, w2, ⟨w, hq, hqc⟩, -⟩ := (pg_ok.2.2.1 91 24 92 0 2 rfl).1 rfl
  refine AW.callV (mj := pI pg 92) (as := [.int x, .int y]) (kc := 0) (ks := 0) (P1 := tcO "java/util/NoSuchElementException" M o) (dq rfl) rfl hq hqc w1 ⟨w2, room_spec (g := pg) (id := 91) (jd := 92) (by decide +kernel)⟩ (Nat.le_of_ble_eq_true rfl) hc (fun v sh' M' hp => ?_) (fun X sh' M' hp => ?_)
  · obtain ⟨rfl, rfl, ⟨-, h3⟩ | ⟨z, h2, h3⟩⟩ := hp
    · cases h3
    · cases h3
      refine AW.i2l (dq rfl) ?_
      refine AW.last (dq rfl) rfl (n := 1) (vp_in_nI (n := 0) (by decide) (by decide)) ?_
      refine AW.goto (dq rfl) (tgt := 17) (by decide) ?_
      refine AW.iconst (dq rfl) ?_
      refine AW.iret (dq rfl) rfl ?_
      exact ⟨rfl, _, rfl, Or.inr ⟨z, h2, rfl, rfl⟩⟩
  · obtain ⟨rfl, rfl, ⟨h2, h3⟩ | ⟨z, -, h3⟩⟩ := hp
    · cases h3
      exact pg_ok.2.2.2.2.2.2.2.2 91 5 "java/util/NoSuchElementException" 1 rfl _ _ _ _ _ _ _ ⟨rfl, _, rfl, Or.inl ⟨h2, rfl⟩⟩
    · cases h3
theorem hz_91 {l : aL} (hl0 : l.1.stackTraces = false) {M : aM} {u : Nat → Nat} {s : Nat} {H : HS} (h : LJ u s H M) {x y : Int32} : ∀ hh, iT (pI pg 91) = tableOf hh → ACH l (pI pg 91) hh (gcI (fun k M' => LJ u s H M' ∧ QP (worO H x y) k M')) 2 12 [.ref 0, .int x, .int y, .ref 93] SHF M := fun hh hT => ACH.joinG (hq_91 hl0 (wor_c hl0 h.2.1 h.2.2.1) hh hT) (lh_91 hl0 h hh hT) (fun k M' M1 q2 q1 hs => ⟨q2, QP_sme q1 hs⟩)
theorem mz_198 {l : aL} (hl0 : l.1.stackTraces = false) {M : aM} {u : Nat → Nat} {s : Nat} {H : HS} (h : LJ u s H M) {x y : Int32} : AC l (pI pg 198) (gcI (fun z M' => LJ u s H M' ∧ mO (worO H x y) z M' ∧ M'.2.1 93 0 = M.2.1 93 0)) 0 0 [.ref 58, .int x, .int y] SHF M := AC.joinG (fcgI hl0 (mwo_c hl0 (LJ_RM h) h.2.1 h.2.2.2.1) (fun z M' _ q => q)) (lm_198 hl0 h) (fun z M' M1 q2 q1 hs => ⟨q2, mO_sme q1.1 hs, (sme_aJ hs (i := 93) (k := 0) (n := 1) rfl (by decide)).symm.trans (by rw [q1.2])⟩)
theorem hq_94 {l : aL} (hl0 : l.1.stackTraces = false) {M : aM} {x y : Int32} {o : Option Int32} (hc : AC l (pI pg 95) (tcO "java/util/NoSuchElementException" M o) 2 12 [.ref 0, .int x, .int y] SHF M) : ∀ hh, iT (pI pg 94) = tableOf hh → ACH l (pI pg 94) hh (gcI (QP o)) 2 12 [.ref 0, .int x, .int y, .ref 93] SHF M := by
  intro hh hT
  refine ACH.of hl0 (by decide +kernel) (by decide +kernel) hT (Nat.le_of_ble_eq_true rfl) ?_
  refine AW.aload_n (dq rfl) rfl rfl ?_
  refine AW.iconst (dq rfl) ?_
  refine AW.aload_n (dq rfl) rfl rfl ?_
  refine AW.iload_n (dq rfl) rfl ?_
  refine AW.iload_n (dq rfl) rfl ?_
  obtain ⟨w1, w2, ⟨w, hq, hqc⟩, -⟩ := (pg_ok.2.2.1 94 27 95 0 2 rfl).1 rfl
  refine AW.callV (mj := pI pg 95) (as := [.int x, .int y]) (kc := 0) (ks := 0) (P1 := tcO "java/util/NoSuchElementException" M o) (dq rfl) rfl hq hqc w1 ⟨w2, room_spec (g := pg) (id := 94) (jd := 95) (by decide +kernel)⟩ (Nat.le_of_ble_eq_true rfl) hc (fun v sh' M' hp => ?_) (fun X sh' M' hp => ?_)
  · obtain ⟨rfl, rfl, ⟨-, h3⟩ | ⟨z, h2, h3⟩⟩ := hp
    · cases h3
    · cases h3
      refine AW.i2l (dq rfl) ?_
      refine AW.last (dq rfl) rfl (n := 1) (vp_in_nI (n := 0) (by decide) (by decide)) ?_
      refine AW.goto (dq rfl) (tgt := 17) (by decide) ?_
      refine AW.iconst (dq rfl) ?_
      refine AW.iret (dq rfl) rfl ?_
      exact ⟨rfl, _, rfl, Or.inr ⟨z, h2, rfl, rfl⟩⟩
  · obtain ⟨rfl, rfl, ⟨h2, h3⟩ | ⟨z, -, h3⟩⟩ := hp
    · cases h3
      exact pg_ok.2.2.2.2.2.2.2.2 94 5 "java/util/NoSuchElementException" 1 rfl _ _ _ _ _ _ _ ⟨rfl, _, rfl, Or.inl ⟨h2, rfl⟩⟩
    · cases h3
theorem hz_94 {l : aL} (hl0 : l.1.stackTraces = false) {M : aM} {u : Nat → Nat} {s : Nat} {H : HS} (h : LJ u s H M) {x y : Int32} : ∀ hh, iT (pI pg 94) = tableOf hh → ACH l (pI pg 94) hh (gcI (fun k M' => LJ u s H M' ∧ QP (skiO H x y) k M')) 2 12 [.ref 0, .int x, .int y, .ref 93] SHF M := fun hh hT => ACH.joinG (hq_94 hl0 (ski_c hl0 h.2.1 h.2.2.1) hh hT) (lh_94 hl0 h hh hT) (fun k M' M1 q2 q1 hs => ⟨q2, QP_sme q1 hs⟩)
theorem mz_200 {l : aL} (hl0 : l.1.stackTraces = false) {M : aM} {u : Nat → Nat} {s : Nat} {H : HS} (h : LJ u s H M) {x y : Int32} : AC l (pI pg 200) (gcI (fun z M' => LJ u s H M' ∧ mO (skiO H x y) z M' ∧ M'.2.1 93 0 = M.2.1 93 0)) 0 0 [.ref 58, .int x, .int y] SHF M := AC.joinG (fcgI hl0 (msk_c hl0 (LJ_RM h) h.2.1 h.2.2.2.1) (fun z M' _ q => q)) (lm_200 hl0 h) (fun z M' M1 q2 q1 hs => ⟨q2, mO_sme q1.1 hs, (sme_aJ hs (i := 93) (k := 0) (n := 1) rfl (by decide)).symm.trans (by rw [q1.2])⟩)
theorem hq_96 {l : aL} (hl0 : l.1.stackTraces = false) {M : aM} {x y : Int32} {o : Option Int32} (hc : AC l (pI pg 97) (tcO "java/util/NoSuchElementException" M o) 2 12 [.ref 0, .int x, .int y] SHF M) : ∀ hh, iT (pI pg 96) = tableOf hh → ACH l (pI pg 96) hh (gcI (QP o)) 2 12 [.ref 0, .int x, .int y, .ref 93] SHF M := by
  intro hh hT
  refine ACH.of hl0 (by decide +kernel) (by decide +kernel) hT (Nat.le_of_ble_eq_true rfl) ?_
  refine AW.aload_n (dq rfl) rfl rfl ?_
  refine AW.iconst (dq rfl) ?_
  refine AW.aload_n (dq rfl) rfl rfl ?_
  refine AW.iload_n (dq rfl) rfl ?_
  refine AW.iload_n (dq rfl) rfl ?_
  obtain ⟨w1, w2, ⟨w, hq, hqc⟩, -⟩ := (pg_ok.2.2.1 96 30 97 0 2 rfl).1 rfl
  refine AW.callV (mj := pI pg 97) (as := [.int x, .int y]) (kc := 0) (ks := 0) (P1 := tcO "java/util/NoSuchElementException" M o) (dq rfl) rfl hq hqc w1 ⟨w2, room_spec (g := pg) (id := 96) (jd := 97) (by decide +kernel)⟩ (Nat.le_of_ble_eq_true rfl) hc (fun v sh' M' hp => ?_) (fun X sh' M' hp => ?_)
  · obtain ⟨rfl, rfl, ⟨-, h3⟩ | ⟨z, h2, h3⟩⟩ := hp
    · cases h3
    · cases h3
      refine AW.i2l (dq rfl) ?_
      refine AW.last (dq rfl) rfl (n := 1) (vp_in_nI (n := 0) (by decide) (by decide)) ?_
      refine AW.goto (dq rfl) (tgt := 17) (by decide) ?_
      refine AW.iconst (dq rfl) ?_
      refine AW.iret (dq rfl) rfl ?_
      exact ⟨rfl, _, rfl, Or.inr ⟨z, h2, rfl, rfl⟩⟩
  · obtain ⟨rfl, rfl, ⟨h2, h3⟩ | ⟨z, -, h3⟩⟩ := hp
    · cases h3
      exact pg_ok.2.2.2.2.2.2.2.2 96 5 "java/util/NoSuchElementException" 1 rfl _ _ _ _ _ _ _ ⟨rfl, _, rfl, Or.inl ⟨h2, rfl⟩⟩
    · cases h3
theorem hz_96 {l : aL} (hl0 : l.1.stackTraces = false) {M : aM} {u : Nat → Nat} {s : Nat} {H : HS} (h : LJ u s H M) {x y : Int32} : ∀ hh, iT (pI pg 96) = tableOf hh → ACH l (pI pg 96) hh (gcI (fun k M' => LJ u s H M' ∧ QP (teaO H x y) k M')) 2 12 [.ref 0, .int x, .int y, .ref 93] SHF M := fun hh hT => ACH.joinG (hq_96 hl0 (tea_c hl0 h.2.1 h.2.2.1) hh hT) (lh_96 hl0 h hh hT) (fun k M' M1 q2 q1 hs => ⟨q2, QP_sme q1 hs⟩)
theorem mz_201 {l : aL} (hl0 : l.1.stackTraces = false) {M : aM} {u : Nat → Nat} {s : Nat} {H : HS} (h : LJ u s H M) {x y : Int32} : AC l (pI pg 201) (gcI (fun z M' => LJ u s H M' ∧ mO (teaO H x y) z M' ∧ M'.2.1 93 0 = M.2.1 93 0)) 0 0 [.ref 58, .int x, .int y] SHF M := AC.joinG (fcgI hl0 (mte_c hl0 (LJ_RM h) h.2.1 h.2.2.2.1) (fun z M' _ q => q)) (lm_201 hl0 h) (fun z M' M1 q2 q1 hs => ⟨q2, mO_sme q1.1 hs, (sme_aJ hs (i := 93) (k := 0) (n := 1) rfl (by decide)).symm.trans (by rw [q1.2])⟩)
theorem mz_193 {l : aL} (hl0 : l.1.stackTraces = false) {M : aM} {u : Nat → Nat} {s : Nat} {H : HS} (h : LJ u s H M) : AC l (pI pg 193) (gcI (fun z M' => LJ u s H M' ∧ z = M.1 58 14)) 0 0 [.ref 58] SHF M := AC.joinG (fcgI hl0 (mfa_c hl0 (LJ_RM h)) (fun z M' _ q => q)) (lm_193 hl0 h) (fun z M' M1 q2 q1 hs => ⟨q2, q1.1⟩)
