/-! the law's calls: what its loop needs of them -/
def gcI (Q : Int32 → aM → Prop) : aP := fun r sh' M' => sh' = SHF ∧ ∃ y : Int32, r = .inl (some (.int y)) ∧ Q y M'
def gcV (Q : aM → Prop) : aP := fun r sh' M' => sh' = SHF ∧ r = .inl none ∧ Q M'
section GL
variable {l : aL} {P : aP} {kc ks kc1 ks1 pc : Nat} {lv : List (Nat × Value)} {st as : List Value} {M : aM} {id jd n i np : Nat}
theorem gl_callVI {Q : Int32 → aM → Prop} (hd : decode (iC (pI pg id)) pc = .ok (.invokevirtual n, 3)) (hm : okM (pI pg id) (pI pg jd) n 0 np (pN pg jd)) (hi : SHF.2[i]? = some (.inl (pN pg jd))) (hr : room pg id jd = true) (hst : Nat.ble (cats st) 8 = true) (hl : as.length = np) (hc : AC l (pI pg jd) (gcI Q) kc1 ks1 (.ref i :: as) SHF M)
    (kk : ∀ (y : Int32) (M' : aM), Q y M' → AW l (pI pg id) P kc ks (pc + 3) lv (.int y :: st) SHF M') : AW l (pI pg id) P (kc + kc1) (ks + ks1) pc lv (as.reverse ++ .ref i :: st) SHF M := by
  obtain ⟨w1, w2, ⟨w, hq, hqc⟩, -⟩ := hm.1 rfl
  refine AW.callV (P1 := gcI Q) hd hi hq hqc w1 ⟨by rw [hl]; exact w2, room_spec hr⟩ (Nat.le_of_ble_eq_true hst) hc (fun v sh' M' hp => ?_) (fun X sh' M' hp => ?_)
  · obtain ⟨rfl, y, h3, h4⟩ := hp
    cases h3
    exact kk y M' h4
  · obtain ⟨-, y, h3, -⟩ := hp
    cases h3
theorem gl_callVV {Q : aM → Prop} (hd : decode (iC (pI pg id)) pc = .ok (.invokevirtual n, 3)) (hm : okM (pI pg id) (pI pg jd) n 0 np (pN pg jd)) (hi : SHF.2[i]? = some (.inl (pN pg jd))) (hr : room pg id jd = true) (hst : Nat.ble (cats st) 8 = true) (hl : as.length = np) (hc : AC l (pI pg jd) (gcV Q) kc1 ks1 (.ref i :: as) SHF M)
    (kk : ∀ (M' : aM), Q M' → AW l (pI pg id) P kc ks (pc + 3) lv st SHF M') : AW l (pI pg id) P (kc + kc1) (ks + ks1) pc lv (as.reverse ++ .ref i :: st) SHF M := by
  obtain ⟨w1, w2, ⟨w, hq, hqc⟩, -⟩ := hm.1 rfl
  refine AW.callV (P1 := gcV Q) hd hi hq hqc w1 ⟨by rw [hl]; exact w2, room_spec hr⟩ (Nat.le_of_ble_eq_true hst) hc (fun v sh' M' hp => ?_) (fun X sh' M' hp => ?_)
  · obtain ⟨rfl, h3, h4⟩ := hp
    cases h3
    exact kk M' h4
  · obtain ⟨-, h3, -⟩ := hp
    cases h3
theorem gl_callH {Q : Int32 → aM → Prop} (hd : decode (iC (pI pg id)) pc = .ok (.invokestatic n, 3)) (hm : okM (pI pg id) (pI pg jd) n 6 np (pN pg jd)) (hr : room pg id jd = true) (hst : Nat.ble (cats st) 8 = true) (hl : as.length = np) (hc : ∀ hh, iT (pI pg jd) = tableOf hh → ACH l (pI pg jd) hh (gcI Q) kc1 ks1 as SHF M)
    (kk : ∀ (y : Int32) (M' : aM), Q y M' → AW l (pI pg id) P kc ks (pc + 3) lv (.int y :: st) SHF M') : AW l (pI pg id) P (kc + kc1) (ks + ks1) pc lv (as.reverse ++ st) SHF M := by
  obtain ⟨hh, w1, w2, -, -, w5⟩ := hm.2.2.2.2.2.2 rfl
  refine AW.callH (P1 := gcI Q) hd w1 ⟨by rw [hl]; exact w2, room_spec hr⟩ (Nat.le_of_ble_eq_true hst) (hc hh w5) (fun v sh' M' hp => ?_) (fun X sh' M' hp => ?_)
  · obtain ⟨rfl, y, h3, h4⟩ := hp
    cases h3
    exact kk y M' h4
  · obtain ⟨-, y, h3, -⟩ := hp
    cases h3
end GL
theorem gcI_of {l : aL} {R : sR} {e : cE} {q : iI} {M : aM} {av : List Value} {Q : aM → Prop} (hl0 : l.1.stackTraces = false) (h : cOk l pg R SHF e) (hC : eC e = [(some (some (.inr q)), [])]) (hX : eX e = []) (hA : mL2 av (eA e)) (hJ : JR R M) (hB : ∀ q ∈ eB e, inI (M.1 q.1 q.2.1) q.2.2) (hQ : ∀ M', Jm R (eW e) M M' → Q M') : AC l (pI pg (eJ e)) (gcI (fun _ M' => Q M')) (eKc e) (eKs e) av SHF M := by
  refine AC.post hl0 (fun r sh' M' hp => ?_) (h M av hA hJ hB)
  obtain ⟨p1, p2, p3⟩ := hp
  cases r with
  | inr X =>
    have p3 : X ∈ eX e := p3
    rw [hX] at p3
    exact absurd p3 List.not_mem_nil
  | inl v =>
    obtain ⟨c, c1, c2, -⟩ := p3
    rw [hC] at c1
    have c1 : c = (some (some (.inr q)), []) := by simpa using c1
    subst c1
    cases v with
    | none => cases c2
    | some v =>
      obtain ⟨y, rfl, hy⟩ := c2
      exact ⟨p1, y, rfl, hQ M' p2⟩
theorem gcV_of {l : aL} {R : sR} {e : cE} {M : aM} {av : List Value} {Q : aM → Prop} (hl0 : l.1.stackTraces = false) (h : cOk l pg R SHF e) (hC : eC e = [(none, [])]) (hX : eX e = []) (hA : mL2 av (eA e)) (hJ : JR R M) (hB : ∀ q ∈ eB e, inI (M.1 q.1 q.2.1) q.2.2) (hQ : ∀ M', Jm R (eW e) M M' → Q M') : AC l (pI pg (eJ e)) (gcV (fun M' => Q M')) (eKc e) (eKs e) av SHF M := by
  refine AC.post hl0 (fun r sh' M' hp => ?_) (h M av hA hJ hB)
  obtain ⟨p1, p2, p3⟩ := hp
  cases r with
  | inr X =>
    have p3 : X ∈ eX e := p3
    rw [hX] at p3
    exact absurd p3 List.not_mem_nil
  | inl v =>
    obtain ⟨c, c1, c2, -⟩ := p3
    rw [hC] at c1
    have c1 : c = (none, []) := by simpa using c1
    subst c1
    cases v with
    | none => exact ⟨p1, rfl, hQ M' p2⟩
    | some v => cases c2
/-- a helper, out of its check -/
theorem help_of {l : aL} {R : sR} {ct : List cE} {e : cE} {q : iI} {n : Nat} {ps : List (Nat × pP)} {M : aM} {av : List Value} {Q : aM → Prop} (hl0 : l.1.stackTraces = false) (hct : ∀ e ∈ ct, cOk l pg R SHF e) (h : mCF pg R SHF mtL ct e [] [] [] n 0 ps = true) (hC : eC e = [(some (some (.inr q)), [])]) (hX : eX e = []) (hy : plainName (iY (pI pg (eJ e))).cls = true) (ho : (iY (pI pg (eJ e))).cls = iO (pI pg (eJ e))) (hlen : Nat.ble (lg_sl av).length (iL (pI pg (eJ e))) = true) (hps : ∀ q ∈ ps, ∃ v, lk (lv_args 0 av) q.1 = some v ∧ mP v q.2) (hJ : JR R M) (hB : ∀ q ∈ eB e, inI (M.1 q.1 q.2.1) q.2.2) (hQ : ∀ M', Jm R (eW e) M M' → Q M') : ∀ hh, iT (pI pg (eJ e)) = tableOf hh → ACH l (pI pg (eJ e)) hh (gcI (fun _ M' => Q M')) (eKc e) (eKs e) av SHF M := by
  intro hh hT
  refine ACH.of hl0 hy ho hT (Nat.le_of_ble_eq_true hlen) ?_
  refine (from_ok pg_ok mtL_ok hl0 hct h (fun _ h => absurd h List.not_mem_nil) hps hJ hB).post (fun r sh' M' hp => ?_)
  obtain ⟨p1, p2, p3⟩ := hp
  cases r with
  | inr X =>
    have p3 : X ∈ eX e := p3
    rw [hX] at p3
    exact absurd p3 List.not_mem_nil
  | inl v =>
    obtain ⟨c, c1, c2, -⟩ := p3
    rw [hC] at c1
    have c1 : c = (some (some (.inr q)), []) := by simpa using c1
    subst c1
    cases v with
    | none => cases c2
    | some v =>
      obtain ⟨y, rfl, hy⟩ := c2
      exact ⟨p1, y, rfl, hQ M' p2⟩

/-- the helper 'house' -/
def QHH (u : Nat → Nat) (H0 : HS) (x : Int32) (M : aM) : Int32 → aM → Prop := fun k M' => (k = Int32.ofInt 1 ∧ M' = M ∧ (x < 0 ∨ ¬ x ≤ M.1 2 1)) ∨ (k = Int32.ofInt 0 ∧ ∃ y : Int32, M'.2.1 93 0 = y.toInt64 ∧ ¬ x < 0 ∧ x ≤ M.1 2 1 ∧ M'.1 2 1 = 0 ∧ (∀ a k, 58 ≤ a → M'.1 a k = M.1 a k) ∧ (∀ f, parS u x.toInt.toNat (x.toInt.toNat + 1) HS0 0 = .inl f → y = nI f.1 ∧ M'.1 0 13 = nI f.2 ∧ M'.1 57 0 = M.1 57 0 + Int32.ofInt 1 ∧ (∀ k, k ≠ 0 → M'.1 57 k = M.1 57 k) ∧ hoC H0 M') ∧ ∀ H, parS u x.toInt.toNat (x.toInt.toNat + 1) HS0 0 = .inr H → y = Int32.ofInt 0 ∧ M'.1 0 13 = Int32.ofInt (-1) ∧ (∀ k, M'.1 57 k = M.1 57 k) ∧ HI H ∧ hoC H M')
theorem help_house {l : aL} (hl0 : l.1.stackTraces = false) {M : aM} {u : Nat → Nat} {s : Nat} {H0 : HS} (h : LJ u s H0 M) {x : Int32} : ∀ hh, iT (pI pg 38) = tableOf hh → ACH l (pI pg 38) hh (gcI (QHH u H0 x M)) 2 12 [.ref 0, .int x, .ref 93] SHF M := by
  intro hh hT
  refine ACH.of hl0 (by decide +kernel) (by decide +kernel) hT (Nat.le_of_ble_eq_true rfl) ?_
  refine AW.aload_n (dq rfl) rfl rfl ?_
  refine AW.iconst (dq rfl) ?_
  refine AW.aload_n (dq rfl) rfl rfl ?_
  refine AW.iload_n (dq rfl) rfl ?_
  obtain ⟨w1, w2, ⟨w, hq, hqc⟩, -⟩ := (pg_ok.2.2.1 38 7 39 0 1 rfl).1 rfl
  refine AW.callV (mj := pI pg 39) (as := [.int x]) (kc := 0) (ks := 0) (P1 := PH39 u H0 x M) (dq rfl) rfl hq hqc w1 ⟨w2, room_spec (g := pg) (id := 38) (jd := 39) (by decide +kernel)⟩ (Nat.le_of_ble_eq_true rfl) (cho_c hl0 h.2.2.1 h.1.1 h.1.2.1 h.1.2.2.2.1 h.1.2.2.2.2.1) (fun v sh' M' hp => ?_) (fun X sh' M' hp => ?_)
  · obtain ⟨rfl, ⟨h3, -⟩ | ⟨y, h3, h4, h5, h6, h7, h8, h9⟩⟩ := hp
    · cases h3
    · cases h3
      refine AW.i2l (dq rfl) ?_
      refine AW.last (dq rfl) rfl (n := 1) (vp_in_nI (n := 0) (by decide) (by decide)) ?_
      refine AW.goto (dq rfl) (tgt := 15) (by decide) ?_
      refine AW.iconst (dq rfl) ?_
      refine AW.iret (dq rfl) rfl ?_
      exact ⟨rfl, _, rfl, Or.inr ⟨rfl, y, rfl, h4, h5, h6, h7, h8, h9⟩⟩
  · obtain ⟨rfl, ⟨h3, rfl, h4⟩ | ⟨y, h3, -⟩⟩ := hp
    · cases h3
      exact pg_ok.2.2.2.2.2.2.2.2 38 4 "java/lang/IllegalArgumentException" 1 rfl _ _ _ _ _ _ _ ⟨rfl, _, rfl, Or.inl ⟨rfl, rfl, h4⟩⟩
    · cases h3

theorem lm_26 {l : aL} (hl0 : l.1.stackTraces = false) {M : aM} {u : Nat → Nat} {s : Nat} {H : HS} (h : LJ u s H M)  : AC l (pI pg 26) (gcI (fun _ M' => LJ u s H M')) 2 12 [.ref 0] SHF M := by
  obtain ⟨hT, hI, hC, hm, hf⟩ := h
  rcases hC with ⟨hJ, hH⟩ | ⟨hJ, hH⟩
  · exact gcI_of (e := en_5) (Q := LJ u s H) hl0 (ok_5 hl0 (ctA_RR hl0) _ List.mem_cons_self) rfl rfl ⟨rfl, trivial⟩ hJ (fun _ h => absurd h List.not_mem_nil) (fun M' hj => LJ_by hT hI hH hm hf (fun a b => Or.inl ⟨a, b⟩) hj (by decide +kernel))
  · exact gcI_of (e := ens_5) (Q := LJ u s H) hl0 (oks_5 hl0 (ctA_RRS hl0) _ List.mem_cons_self) rfl rfl ⟨rfl, trivial⟩ hJ (fun _ h => absurd h List.not_mem_nil) (fun M' hj => LJ_by hT hI hH hm hf (fun a b => Or.inr ⟨a, b⟩) hj (by decide +kernel))
theorem lm_193 {l : aL} (hl0 : l.1.stackTraces = false) {M : aM} {u : Nat → Nat} {s : Nat} {H : HS} (h : LJ u s H M)  : AC l (pI pg 193) (gcI (fun _ M' => LJ u s H M')) 0 0 [.ref 58] SHF M := by
  obtain ⟨hT, hI, hC, hm, hf⟩ := h
  rcases hC with ⟨hJ, hH⟩ | ⟨hJ, hH⟩
  · exact gcI_of (e := en_85) (Q := LJ u s H) hl0 (ok_85 hl0 (ctA_RR hl0) _ List.mem_cons_self) rfl rfl ⟨rfl, trivial⟩ hJ (fun _ h => absurd h List.not_mem_nil) (fun M' hj => LJ_by hT hI hH hm hf (fun a b => Or.inl ⟨a, b⟩) hj (by decide +kernel))
  · exact gcI_of (e := ens_85) (Q := LJ u s H) hl0 (oks_85 hl0 (ctA_RRS hl0) _ List.mem_cons_self) rfl rfl ⟨rfl, trivial⟩ hJ (fun _ h => absurd h List.not_mem_nil) (fun M' hj => LJ_by hT hI hH hm hf (fun a b => Or.inr ⟨a, b⟩) hj (by decide +kernel))
def eh_85 : cE := (85, [some (.inl (.ref 0)), some (.inr ((-2147483648), 2147483647)), some (.inl (.ref 93))], [], ([], []), [(some (some (.inr (0, 2))), [])], [], 2, 12)
set_option maxRecDepth 100000 in
theorem ckha_85 : mCF pg RR SHF mtL ct_166 eh_85 [] [] [] 60 0 [(0, some (.inl (.ref 0))), (1, some (.inr ((-2147483648), 2147483647))), (2, some (.inl (.ref 93)))] = true := by decide +kernel
set_option maxRecDepth 100000 in
theorem ckhb_85 : mCF pg RRS SHF mtL cts_166 eh_85 [] [] [] 60 0 [(0, some (.inl (.ref 0))), (1, some (.inr ((-2147483648), 2147483647))), (2, some (.inl (.ref 93)))] = true := by decide +kernel
theorem lh_85 {l : aL} (hl0 : l.1.stackTraces = false) {M : aM} {u : Nat → Nat} {s : Nat} {H : HS} (h : LJ u s H M) {x1 : Int32} : ∀ hh, iT (pI pg 85) = tableOf hh → ACH l (pI pg 85) hh (gcI (fun _ M' => LJ u s H M')) 2 12 [.ref 0, .int x1, .ref 93] SHF M := by
  obtain ⟨hT, hI, hC, hm, hf⟩ := h
  rcases hC with ⟨hJ, hH⟩ | ⟨hJ, hH⟩
  · exact help_of (e := eh_85) (Q := LJ u s H) hl0 (all_RR hl0) ckha_85 rfl rfl (by decide +kernel) (by decide +kernel) rfl (List.forall_mem_cons.mpr ⟨⟨_, rfl, rfl⟩, List.forall_mem_cons.mpr ⟨⟨_, rfl, x1, rfl, in_full x1⟩, List.forall_mem_cons.mpr ⟨⟨_, rfl, rfl⟩, fun _ h => absurd h List.not_mem_nil⟩⟩⟩) hJ (fun _ h => absurd h List.not_mem_nil) (fun M' hj => LJ_by hT hI hH hm hf (fun a b => Or.inl ⟨a, b⟩) hj (by decide +kernel))
  · exact help_of (e := eh_85) (Q := LJ u s H) hl0 (all_RRS hl0) ckhb_85 rfl rfl (by decide +kernel) (by decide +kernel) rfl (List.forall_mem_cons.mpr ⟨⟨_, rfl, rfl⟩, List.forall_mem_cons.mpr ⟨⟨_, rfl, x1, rfl, in_full x1⟩, List.forall_mem_cons.mpr ⟨⟨_, rfl, rfl⟩, fun _ h => absurd h List.not_mem_nil⟩⟩⟩) hJ (fun _ h => absurd h List.not_mem_nil) (fun M' hj => LJ_by hT hI hH hm hf (fun a b => Or.inr ⟨a, b⟩) hj (by decide +kernel))
theorem lm_194 {l : aL} (hl0 : l.1.stackTraces = false) {M : aM} {u : Nat → Nat} {s : Nat} {H : HS} (h : LJ u s H M) {x1 : Int32} : AC l (pI pg 194) (gcI (fun _ M' => LJ u s H M')) 0 0 [.ref 58, .int x1] SHF M := by
  obtain ⟨hT, hI, hC, hm, hf⟩ := h
  rcases hC with ⟨hJ, hH⟩ | ⟨hJ, hH⟩
  · exact gcI_of (e := en_86) (Q := LJ u s H) hl0 (ok_86 hl0 (ctA_RR hl0) _ List.mem_cons_self) rfl rfl ⟨rfl, ⟨x1, rfl, in_full x1⟩, trivial⟩ hJ (fun _ h => absurd h List.not_mem_nil) (fun M' hj => LJ_by hT hI hH hm hf (fun a b => Or.inl ⟨a, b⟩) hj (by decide +kernel))
  · exact gcI_of (e := ens_86) (Q := LJ u s H) hl0 (oks_86 hl0 (ctA_RRS hl0) _ List.mem_cons_self) rfl rfl ⟨rfl, ⟨x1, rfl, in_full x1⟩, trivial⟩ hJ (fun _ h => absurd h List.not_mem_nil) (fun M' hj => LJ_by hT hI hH hm hf (fun a b => Or.inr ⟨a, b⟩) hj (by decide +kernel))
def eh_88 : cE := (88, [some (.inl (.ref 0)), some (.inr ((-2147483648), 2147483647)), some (.inr ((-2147483648), 2147483647)), some (.inl (.ref 93))], [], ([], []), [(some (some (.inr (0, 2))), [])], [], 2, 12)
set_option maxRecDepth 100000 in
theorem ckha_88 : mCF pg RR SHF mtL ct_166 eh_88 [] [] [] 60 0 [(0, some (.inl (.ref 0))), (1, some (.inr ((-2147483648), 2147483647))), (2, some (.inr ((-2147483648), 2147483647))), (3, some (.inl (.ref 93)))] = true := by decide +kernel
set_option maxRecDepth 100000 in
theorem ckhb_88 : mCF pg RRS SHF mtL cts_166 eh_88 [] [] [] 60 0 [(0, some (.inl (.ref 0))), (1, some (.inr ((-2147483648), 2147483647))), (2, some (.inr ((-2147483648), 2147483647))), (3, some (.inl (.ref 93)))] = true := by decide +kernel
theorem lh_88 {l : aL} (hl0 : l.1.stackTraces = false) {M : aM} {u : Nat → Nat} {s : Nat} {H : HS} (h : LJ u s H M) {x1 x2 : Int32} : ∀ hh, iT (pI pg 88) = tableOf hh → ACH l (pI pg 88) hh (gcI (fun _ M' => LJ u s H M')) 2 12 [.ref 0, .int x1, .int x2, .ref 93] SHF M := by
  obtain ⟨hT, hI, hC, hm, hf⟩ := h
  rcases hC with ⟨hJ, hH⟩ | ⟨hJ, hH⟩
  · exact help_of (e := eh_88) (Q := LJ u s H) hl0 (all_RR hl0) ckha_88 rfl rfl (by decide +kernel) (by decide +kernel) rfl (List.forall_mem_cons.mpr ⟨⟨_, rfl, rfl⟩, List.forall_mem_cons.mpr ⟨⟨_, rfl, x1, rfl, in_full x1⟩, List.forall_mem_cons.mpr ⟨⟨_, rfl, x2, rfl, in_full x2⟩, List.forall_mem_cons.mpr ⟨⟨_, rfl, rfl⟩, fun _ h => absurd h List.not_mem_nil⟩⟩⟩⟩) hJ (fun _ h => absurd h List.not_mem_nil) (fun M' hj => LJ_by hT hI hH hm hf (fun a b => Or.inl ⟨a, b⟩) hj (by decide +kernel))
  · exact help_of (e := eh_88) (Q := LJ u s H) hl0 (all_RRS hl0) ckhb_88 rfl rfl (by decide +kernel) (by decide +kernel) rfl (List.forall_mem_cons.mpr ⟨⟨_, rfl, rfl⟩, List.forall_mem_cons.mpr ⟨⟨_, rfl, x1, rfl, in_full x1⟩, List.forall_mem_cons.mpr ⟨⟨_, rfl, x2, rfl, in_full x2⟩, List.forall_mem_cons.mpr ⟨⟨_, rfl, rfl⟩, fun _ h => absurd h List.not_mem_nil⟩⟩⟩⟩) hJ (fun _ h => absurd h List.not_mem_nil) (fun M' hj => LJ_by hT hI hH hm hf (fun a b => Or.inr ⟨a, b⟩) hj (by decide +kernel))
theorem lm_196 {l : aL} (hl0 : l.1.stackTraces = false) {M : aM} {u : Nat → Nat} {s : Nat} {H : HS} (h : LJ u s H M) {x1 x2 : Int32} : AC l (pI pg 196) (gcI (fun _ M' => LJ u s H M')) 0 0 [.ref 58, .int x1, .int x2] SHF M := by
  obtain ⟨hT, hI, hC, hm, hf⟩ := h
  rcases hC with ⟨hJ, hH⟩ | ⟨hJ, hH⟩
  · exact gcI_of (e := en_87) (Q := LJ u s H) hl0 (ok_87 hl0 (ctA_RR hl0) _ List.mem_cons_self) rfl rfl ⟨rfl, ⟨x1, rfl, in_full x1⟩, ⟨x2, rfl, in_full x2⟩, trivial⟩ hJ (fun _ h => absurd h List.not_mem_nil) (fun M' hj => LJ_by hT hI hH hm hf (fun a b => Or.inl ⟨a, b⟩) hj (by decide +kernel))
  · exact gcI_of (e := ens_87) (Q := LJ u s H) hl0 (oks_87 hl0 (ctA_RRS hl0) _ List.mem_cons_self) rfl rfl ⟨rfl, ⟨x1, rfl, in_full x1⟩, ⟨x2, rfl, in_full x2⟩, trivial⟩ hJ (fun _ h => absurd h List.not_mem_nil) (fun M' hj => LJ_by hT hI hH hm hf (fun a b => Or.inr ⟨a, b⟩) hj (by decide +kernel))
def eh_91 : cE := (91, [some (.inl (.ref 0)), some (.inr ((-2147483648), 2147483647)), some (.inr ((-2147483648), 2147483647)), some (.inl (.ref 93))], [], ([], []), [(some (some (.inr (0, 2))), [])], [], 2, 12)
set_option maxRecDepth 100000 in
theorem ckha_91 : mCF pg RR SHF mtL ct_166 eh_91 [] [] [] 60 0 [(0, some (.inl (.ref 0))), (1, some (.inr ((-2147483648), 2147483647))), (2, some (.inr ((-2147483648), 2147483647))), (3, some (.inl (.ref 93)))] = true := by decide +kernel
set_option maxRecDepth 100000 in
theorem ckhb_91 : mCF pg RRS SHF mtL cts_166 eh_91 [] [] [] 60 0 [(0, some (.inl (.ref 0))), (1, some (.inr ((-2147483648), 2147483647))), (2, some (.inr ((-2147483648), 2147483647))), (3, some (.inl (.ref 93)))] = true := by decide +kernel
theorem lh_91 {l : aL} (hl0 : l.1.stackTraces = false) {M : aM} {u : Nat → Nat} {s : Nat} {H : HS} (h : LJ u s H M) {x1 x2 : Int32} : ∀ hh, iT (pI pg 91) = tableOf hh → ACH l (pI pg 91) hh (gcI (fun _ M' => LJ u s H M')) 2 12 [.ref 0, .int x1, .int x2, .ref 93] SHF M := by
  obtain ⟨hT, hI, hC, hm, hf⟩ := h
  rcases hC with ⟨hJ, hH⟩ | ⟨hJ, hH⟩
  · exact help_of (e := eh_91) (Q := LJ u s H) hl0 (all_RR hl0) ckha_91 rfl rfl (by decide +kernel) (by decide +kernel) rfl (List.forall_mem_cons.mpr ⟨⟨_, rfl, rfl⟩, List.forall_mem_cons.mpr ⟨⟨_, rfl, x1, rfl, in_full x1⟩, List.forall_mem_cons.mpr ⟨⟨_, rfl, x2, rfl, in_full x2⟩, List.forall_mem_cons.mpr ⟨⟨_, rfl, rfl⟩, fun _ h => absurd h List.not_mem_nil⟩⟩⟩⟩) hJ (fun _ h => absurd h List.not_mem_nil) (fun M' hj => LJ_by hT hI hH hm hf (fun a b => Or.inl ⟨a, b⟩) hj (by decide +kernel))
  · exact help_of (e := eh_91) (Q := LJ u s H) hl0 (all_RRS hl0) ckhb_91 rfl rfl (by decide +kernel) (by decide +kernel) rfl (List.forall_mem_cons.mpr ⟨⟨_, rfl, rfl⟩, List.forall_mem_cons.mpr ⟨⟨_, rfl, x1, rfl, in_full x1⟩, List.forall_mem_cons.mpr ⟨⟨_, rfl, x2, rfl, in_full x2⟩, List.forall_mem_cons.mpr ⟨⟨_, rfl, rfl⟩, fun _ h => absurd h List.not_mem_nil⟩⟩⟩⟩) hJ (fun _ h => absurd h List.not_mem_nil) (fun M' hj => LJ_by hT hI hH hm hf (fun a b => Or.inr ⟨a, b⟩) hj (by decide +kernel))
theorem lm_198 {l : aL} (hl0 : l.1.stackTraces = false) {M : aM} {u : Nat → Nat} {s : Nat} {H : HS} (h : LJ u s H M) {x1 x2 : Int32} : AC l (pI pg 198) (gcI (fun _ M' => LJ u s H M')) 0 0 [.ref 58, .int x1, .int x2] SHF M := by
  obtain ⟨hT, hI, hC, hm, hf⟩ := h
  rcases hC with ⟨hJ, hH⟩ | ⟨hJ, hH⟩
  · exact gcI_of (e := en_88) (Q := LJ u s H) hl0 (ok_88 hl0 (ctA_RR hl0) _ List.mem_cons_self) rfl rfl ⟨rfl, ⟨x1, rfl, in_full x1⟩, ⟨x2, rfl, in_full x2⟩, trivial⟩ hJ (fun _ h => absurd h List.not_mem_nil) (fun M' hj => LJ_by hT hI hH hm hf (fun a b => Or.inl ⟨a, b⟩) hj (by decide +kernel))
  · exact gcI_of (e := ens_88) (Q := LJ u s H) hl0 (oks_88 hl0 (ctA_RRS hl0) _ List.mem_cons_self) rfl rfl ⟨rfl, ⟨x1, rfl, in_full x1⟩, ⟨x2, rfl, in_full x2⟩, trivial⟩ hJ (fun _ h => absurd h List.not_mem_nil) (fun M' hj => LJ_by hT hI hH hm hf (fun a b => Or.inr ⟨a, b⟩) hj (by decide +kernel))
def eh_94 : cE := (94, [some (.inl (.ref 0)), some (.inr ((-2147483648), 2147483647)), some (.inr ((-2147483648), 2147483647)), some (.inl (.ref 93))], [], ([], []), [(some (some (.inr (0, 2))), [])], [], 2, 12)
set_option maxRecDepth 100000 in
theorem ckha_94 : mCF pg RR SHF mtL ct_166 eh_94 [] [] [] 60 0 [(0, some (.inl (.ref 0))), (1, some (.inr ((-2147483648), 2147483647))), (2, some (.inr ((-2147483648), 2147483647))), (3, some (.inl (.ref 93)))] = true := by decide +kernel
set_option maxRecDepth 100000 in
theorem ckhb_94 : mCF pg RRS SHF mtL cts_166 eh_94 [] [] [] 60 0 [(0, some (.inl (.ref 0))), (1, some (.inr ((-2147483648), 2147483647))), (2, some (.inr ((-2147483648), 2147483647))), (3, some (.inl (.ref 93)))] = true := by decide +kernel
theorem lh_94 {l : aL} (hl0 : l.1.stackTraces = false) {M : aM} {u : Nat → Nat} {s : Nat} {H : HS} (h : LJ u s H M) {x1 x2 : Int32} : ∀ hh, iT (pI pg 94) = tableOf hh → ACH l (pI pg 94) hh (gcI (fun _ M' => LJ u s H M')) 2 12 [.ref 0, .int x1, .int x2, .ref 93] SHF M := by
  obtain ⟨hT, hI, hC, hm, hf⟩ := h
  rcases hC with ⟨hJ, hH⟩ | ⟨hJ, hH⟩
  · exact help_of (e := eh_94) (Q := LJ u s H) hl0 (all_RR hl0) ckha_94 rfl rfl (by decide +kernel) (by decide +kernel) rfl (List.forall_mem_cons.mpr ⟨⟨_, rfl, rfl⟩, List.forall_mem_cons.mpr ⟨⟨_, rfl, x1, rfl, in_full x1⟩, List.forall_mem_cons.mpr ⟨⟨_, rfl, x2, rfl, in_full x2⟩, List.forall_mem_cons.mpr ⟨⟨_, rfl, rfl⟩, fun _ h => absurd h List.not_mem_nil⟩⟩⟩⟩) hJ (fun _ h => absurd h List.not_mem_nil) (fun M' hj => LJ_by hT hI hH hm hf (fun a b => Or.inl ⟨a, b⟩) hj (by decide +kernel))
  · exact help_of (e := eh_94) (Q := LJ u s H) hl0 (all_RRS hl0) ckhb_94 rfl rfl (by decide +kernel) (by decide +kernel) rfl (List.forall_mem_cons.mpr ⟨⟨_, rfl, rfl⟩, List.forall_mem_cons.mpr ⟨⟨_, rfl, x1, rfl, in_full x1⟩, List.forall_mem_cons.mpr ⟨⟨_, rfl, x2, rfl, in_full x2⟩, List.forall_mem_cons.mpr ⟨⟨_, rfl, rfl⟩, fun _ h => absurd h List.not_mem_nil⟩⟩⟩⟩) hJ (fun _ h => absurd h List.not_mem_nil) (fun M' hj => LJ_by hT hI hH hm hf (fun a b => Or.inr ⟨a, b⟩) hj (by decide +kernel))
theorem lm_200 {l : aL} (hl0 : l.1.stackTraces = false) {M : aM} {u : Nat → Nat} {s : Nat} {H : HS} (h : LJ u s H M) {x1 x2 : Int32} : AC l (pI pg 200) (gcI (fun _ M' => LJ u s H M')) 0 0 [.ref 58, .int x1, .int x2] SHF M := by
  obtain ⟨hT, hI, hC, hm, hf⟩ := h
  rcases hC with ⟨hJ, hH⟩ | ⟨hJ, hH⟩
  · exact gcI_of (e := en_89) (Q := LJ u s H) hl0 (ok_89 hl0 (ctA_RR hl0) _ List.mem_cons_self) rfl rfl ⟨rfl, ⟨x1, rfl, in_full x1⟩, ⟨x2, rfl, in_full x2⟩, trivial⟩ hJ (fun _ h => absurd h List.not_mem_nil) (fun M' hj => LJ_by hT hI hH hm hf (fun a b => Or.inl ⟨a, b⟩) hj (by decide +kernel))
  · exact gcI_of (e := ens_89) (Q := LJ u s H) hl0 (oks_89 hl0 (ctA_RRS hl0) _ List.mem_cons_self) rfl rfl ⟨rfl, ⟨x1, rfl, in_full x1⟩, ⟨x2, rfl, in_full x2⟩, trivial⟩ hJ (fun _ h => absurd h List.not_mem_nil) (fun M' hj => LJ_by hT hI hH hm hf (fun a b => Or.inr ⟨a, b⟩) hj (by decide +kernel))
def eh_96 : cE := (96, [some (.inl (.ref 0)), some (.inr ((-2147483648), 2147483647)), some (.inr ((-2147483648), 2147483647)), some (.inl (.ref 93))], [], ([], []), [(some (some (.inr (0, 2))), [])], [], 2, 12)
set_option maxRecDepth 100000 in
theorem ckha_96 : mCF pg RR SHF mtL ct_166 eh_96 [] [] [] 60 0 [(0, some (.inl (.ref 0))), (1, some (.inr ((-2147483648), 2147483647))), (2, some (.inr ((-2147483648), 2147483647))), (3, some (.inl (.ref 93)))] = true := by decide +kernel
set_option maxRecDepth 100000 in
theorem ckhb_96 : mCF pg RRS SHF mtL cts_166 eh_96 [] [] [] 60 0 [(0, some (.inl (.ref 0))), (1, some (.inr ((-2147483648), 2147483647))), (2, some (.inr ((-2147483648), 2147483647))), (3, some (.inl (.ref 93)))] = true := by decide +kernel
theorem lh_96 {l : aL} (hl0 : l.1.stackTraces = false) {M : aM} {u : Nat → Nat} {s : Nat} {H : HS} (h : LJ u s H M) {x1 x2 : Int32} : ∀ hh, iT (pI pg 96) = tableOf hh → ACH l (pI pg 96) hh (gcI (fun _ M' => LJ u s H M')) 2 12 [.ref 0, .int x1, .int x2, .ref 93] SHF M := by
  obtain ⟨hT, hI, hC, hm, hf⟩ := h
  rcases hC with ⟨hJ, hH⟩ | ⟨hJ, hH⟩
  · exact help_of (e := eh_96) (Q := LJ u s H) hl0 (all_RR hl0) ckha_96 rfl rfl (by decide +kernel) (by decide +kernel) rfl (List.forall_mem_cons.mpr ⟨⟨_, rfl, rfl⟩, List.forall_mem_cons.mpr ⟨⟨_, rfl, x1, rfl, in_full x1⟩, List.forall_mem_cons.mpr ⟨⟨_, rfl, x2, rfl, in_full x2⟩, List.forall_mem_cons.mpr ⟨⟨_, rfl, rfl⟩, fun _ h => absurd h List.not_mem_nil⟩⟩⟩⟩) hJ (fun _ h => absurd h List.not_mem_nil) (fun M' hj => LJ_by hT hI hH hm hf (fun a b => Or.inl ⟨a, b⟩) hj (by decide +kernel))
  · exact help_of (e := eh_96) (Q := LJ u s H) hl0 (all_RRS hl0) ckhb_96 rfl rfl (by decide +kernel) (by decide +kernel) rfl (List.forall_mem_cons.mpr ⟨⟨_, rfl, rfl⟩, List.forall_mem_cons.mpr ⟨⟨_, rfl, x1, rfl, in_full x1⟩, List.forall_mem_cons.mpr ⟨⟨_, rfl, x2, rfl, in_full x2⟩, List.forall_mem_cons.mpr ⟨⟨_, rfl, rfl⟩, fun _ h => absurd h List.not_mem_nil⟩⟩⟩⟩) hJ (fun _ h => absurd h List.not_mem_nil) (fun M' hj => LJ_by hT hI hH hm hf (fun a b => Or.inr ⟨a, b⟩) hj (by decide +kernel))
theorem lm_201 {l : aL} (hl0 : l.1.stackTraces = false) {M : aM} {u : Nat → Nat} {s : Nat} {H : HS} (h : LJ u s H M) {x1 x2 : Int32} : AC l (pI pg 201) (gcI (fun _ M' => LJ u s H M')) 0 0 [.ref 58, .int x1, .int x2] SHF M := by
  obtain ⟨hT, hI, hC, hm, hf⟩ := h
  rcases hC with ⟨hJ, hH⟩ | ⟨hJ, hH⟩
  · exact gcI_of (e := en_90) (Q := LJ u s H) hl0 (ok_90 hl0 (ctA_RR hl0) _ List.mem_cons_self) rfl rfl ⟨rfl, ⟨x1, rfl, in_full x1⟩, ⟨x2, rfl, in_full x2⟩, trivial⟩ hJ (fun _ h => absurd h List.not_mem_nil) (fun M' hj => LJ_by hT hI hH hm hf (fun a b => Or.inl ⟨a, b⟩) hj (by decide +kernel))
  · exact gcI_of (e := ens_90) (Q := LJ u s H) hl0 (oks_90 hl0 (ctA_RRS hl0) _ List.mem_cons_self) rfl rfl ⟨rfl, ⟨x1, rfl, in_full x1⟩, ⟨x2, rfl, in_full x2⟩, trivial⟩ hJ (fun _ h => absurd h List.not_mem_nil) (fun M' hj => LJ_by hT hI hH hm hf (fun a b => Or.inr ⟨a, b⟩) hj (by decide +kernel))
def eh_98 : cE := (98, [some (.inl (.ref 0)), some (.inr ((-2147483648), 2147483647)), some (.inl (.ref 93))], [], ([], [(0, 9), (36, 3)]), [(some (some (.inr (0, 2))), [])], [], 2, 12)
set_option maxRecDepth 100000 in
theorem ckha_98 : mCF pg RR SHF mtL ct_166 eh_98 [] [] [] 60 0 [(0, some (.inl (.ref 0))), (1, some (.inr ((-2147483648), 2147483647))), (2, some (.inl (.ref 93)))] = true := by decide +kernel
set_option maxRecDepth 100000 in
theorem ckhb_98 : mCF pg RRS SHF mtL cts_166 eh_98 [] [] [] 60 0 [(0, some (.inl (.ref 0))), (1, some (.inr ((-2147483648), 2147483647))), (2, some (.inl (.ref 93)))] = true := by decide +kernel
theorem lh_98 {l : aL} (hl0 : l.1.stackTraces = false) {M : aM} {u : Nat → Nat} {s : Nat} {H : HS} (h : LJ u s H M) {x1 : Int32} : ∀ hh, iT (pI pg 98) = tableOf hh → ACH l (pI pg 98) hh (gcI (fun _ M' => LJ u s H M')) 2 12 [.ref 0, .int x1, .ref 93] SHF M := by
  obtain ⟨hT, hI, hC, hm, hf⟩ := h
  rcases hC with ⟨hJ, hH⟩ | ⟨hJ, hH⟩
  · exact help_of (e := eh_98) (Q := LJ u s H) hl0 (all_RR hl0) ckha_98 rfl rfl (by decide +kernel) (by decide +kernel) rfl (List.forall_mem_cons.mpr ⟨⟨_, rfl, rfl⟩, List.forall_mem_cons.mpr ⟨⟨_, rfl, x1, rfl, in_full x1⟩, List.forall_mem_cons.mpr ⟨⟨_, rfl, rfl⟩, fun _ h => absurd h List.not_mem_nil⟩⟩⟩) hJ (fun _ h => absurd h List.not_mem_nil) (fun M' hj => LJ_by hT hI hH hm hf (fun a b => Or.inl ⟨a, b⟩) hj (by decide +kernel))
  · exact help_of (e := eh_98) (Q := LJ u s H) hl0 (all_RRS hl0) ckhb_98 rfl rfl (by decide +kernel) (by decide +kernel) rfl (List.forall_mem_cons.mpr ⟨⟨_, rfl, rfl⟩, List.forall_mem_cons.mpr ⟨⟨_, rfl, x1, rfl, in_full x1⟩, List.forall_mem_cons.mpr ⟨⟨_, rfl, rfl⟩, fun _ h => absurd h List.not_mem_nil⟩⟩⟩) hJ (fun _ h => absurd h List.not_mem_nil) (fun M' hj => LJ_by hT hI hH hm hf (fun a b => Or.inr ⟨a, b⟩) hj (by decide +kernel))
theorem lm_202 {l : aL} (hl0 : l.1.stackTraces = false) {M : aM} {u : Nat → Nat} {s : Nat} {H : HS} (h : LJ u s H M) {x1 : Int32} : AC l (pI pg 202) (gcI (fun _ M' => LJ u s H M')) 0 0 [.ref 58, .int x1] SHF M := by
  obtain ⟨hT, hI, hC, hm, hf⟩ := h
  rcases hC with ⟨hJ, hH⟩ | ⟨hJ, hH⟩
  · exact gcI_of (e := en_100) (Q := LJ u s H) hl0 (ok_100 hl0 (ctA_RR hl0) _ List.mem_cons_self) rfl rfl ⟨rfl, ⟨x1, rfl, in_full x1⟩, trivial⟩ hJ (fun _ h => absurd h List.not_mem_nil) (fun M' hj => LJ_by hT hI hH hm hf (fun a b => Or.inl ⟨a, b⟩) hj (by decide +kernel))
  · exact gcI_of (e := ens_100) (Q := LJ u s H) hl0 (oks_100 hl0 (ctA_RRS hl0) _ List.mem_cons_self) rfl rfl ⟨rfl, ⟨x1, rfl, in_full x1⟩, trivial⟩ hJ (fun _ h => absurd h List.not_mem_nil) (fun M' hj => LJ_by hT hI hH hm hf (fun a b => Or.inr ⟨a, b⟩) hj (by decide +kernel))
def eh_110 : cE := (110, [some (.inl (.ref 0)), some (.inr ((-2147483648), 2147483647)), some (.inl (.ref 93))], [], ([], []), [(some (some (.inr (0, 2))), [])], [], 2, 12)
set_option maxRecDepth 100000 in
theorem ckha_110 : mCF pg RR SHF mtL ct_166 eh_110 [] [] [] 60 0 [(0, some (.inl (.ref 0))), (1, some (.inr ((-2147483648), 2147483647))), (2, some (.inl (.ref 93)))] = true := by decide +kernel
set_option maxRecDepth 100000 in
theorem ckhb_110 : mCF pg RRS SHF mtL cts_166 eh_110 [] [] [] 60 0 [(0, some (.inl (.ref 0))), (1, some (.inr ((-2147483648), 2147483647))), (2, some (.inl (.ref 93)))] = true := by decide +kernel
theorem lh_110 {l : aL} (hl0 : l.1.stackTraces = false) {M : aM} {u : Nat → Nat} {s : Nat} {H : HS} (h : LJ u s H M) {x1 : Int32} : ∀ hh, iT (pI pg 110) = tableOf hh → ACH l (pI pg 110) hh (gcI (fun _ M' => LJ u s H M')) 2 12 [.ref 0, .int x1, .ref 93] SHF M := by
  obtain ⟨hT, hI, hC, hm, hf⟩ := h
  rcases hC with ⟨hJ, hH⟩ | ⟨hJ, hH⟩
  · exact help_of (e := eh_110) (Q := LJ u s H) hl0 (all_RR hl0) ckha_110 rfl rfl (by decide +kernel) (by decide +kernel) rfl (List.forall_mem_cons.mpr ⟨⟨_, rfl, rfl⟩, List.forall_mem_cons.mpr ⟨⟨_, rfl, x1, rfl, in_full x1⟩, List.forall_mem_cons.mpr ⟨⟨_, rfl, rfl⟩, fun _ h => absurd h List.not_mem_nil⟩⟩⟩) hJ (fun _ h => absurd h List.not_mem_nil) (fun M' hj => LJ_by hT hI hH hm hf (fun a b => Or.inl ⟨a, b⟩) hj (by decide +kernel))
  · exact help_of (e := eh_110) (Q := LJ u s H) hl0 (all_RRS hl0) ckhb_110 rfl rfl (by decide +kernel) (by decide +kernel) rfl (List.forall_mem_cons.mpr ⟨⟨_, rfl, rfl⟩, List.forall_mem_cons.mpr ⟨⟨_, rfl, x1, rfl, in_full x1⟩, List.forall_mem_cons.mpr ⟨⟨_, rfl, rfl⟩, fun _ h => absurd h List.not_mem_nil⟩⟩⟩) hJ (fun _ h => absurd h List.not_mem_nil) (fun M' hj => LJ_by hT hI hH hm hf (fun a b => Or.inr ⟨a, b⟩) hj (by decide +kernel))
theorem lm_214 {l : aL} (hl0 : l.1.stackTraces = false) {M : aM} {u : Nat → Nat} {s : Nat} {H : HS} (h : LJ u s H M) {x1 : Int32} : AC l (pI pg 214) (gcI (fun _ M' => LJ u s H M')) 0 0 [.ref 58, .int x1] SHF M := by
  obtain ⟨hT, hI, hC, hm, hf⟩ := h
  rcases hC with ⟨hJ, hH⟩ | ⟨hJ, hH⟩
  · exact gcI_of (e := en_101) (Q := LJ u s H) hl0 (ok_101 hl0 (ctA_RR hl0) _ List.mem_cons_self) rfl rfl ⟨rfl, ⟨x1, rfl, in_full x1⟩, trivial⟩ hJ (fun _ h => absurd h List.not_mem_nil) (fun M' hj => LJ_by hT hI hH hm hf (fun a b => Or.inl ⟨a, b⟩) hj (by decide +kernel))
  · exact gcI_of (e := ens_101) (Q := LJ u s H) hl0 (oks_101 hl0 (ctA_RRS hl0) _ List.mem_cons_self) rfl rfl ⟨rfl, ⟨x1, rfl, in_full x1⟩, trivial⟩ hJ (fun _ h => absurd h List.not_mem_nil) (fun M' hj => LJ_by hT hI hH hm hf (fun a b => Or.inr ⟨a, b⟩) hj (by decide +kernel))
def eh_113 : cE := (113, [some (.inl (.ref 0)), some (.inr ((-2147483648), 2147483647)), some (.inl (.ref 93))], [], ([], []), [(some (some (.inr (0, 2))), [])], [], 2, 12)
set_option maxRecDepth 100000 in
theorem ckha_113 : mCF pg RR SHF mtL ct_166 eh_113 [] [] [] 60 0 [(0, some (.inl (.ref 0))), (1, some (.inr ((-2147483648), 2147483647))), (2, some (.inl (.ref 93)))] = true := by decide +kernel
set_option maxRecDepth 100000 in
theorem ckhb_113 : mCF pg RRS SHF mtL cts_166 eh_113 [] [] [] 60 0 [(0, some (.inl (.ref 0))), (1, some (.inr ((-2147483648), 2147483647))), (2, some (.inl (.ref 93)))] = true := by decide +kernel
theorem lh_113 {l : aL} (hl0 : l.1.stackTraces = false) {M : aM} {u : Nat → Nat} {s : Nat} {H : HS} (h : LJ u s H M) {x1 : Int32} : ∀ hh, iT (pI pg 113) = tableOf hh → ACH l (pI pg 113) hh (gcI (fun _ M' => LJ u s H M')) 2 12 [.ref 0, .int x1, .ref 93] SHF M := by
  obtain ⟨hT, hI, hC, hm, hf⟩ := h
  rcases hC with ⟨hJ, hH⟩ | ⟨hJ, hH⟩
  · exact help_of (e := eh_113) (Q := LJ u s H) hl0 (all_RR hl0) ckha_113 rfl rfl (by decide +kernel) (by decide +kernel) rfl (List.forall_mem_cons.mpr ⟨⟨_, rfl, rfl⟩, List.forall_mem_cons.mpr ⟨⟨_, rfl, x1, rfl, in_full x1⟩, List.forall_mem_cons.mpr ⟨⟨_, rfl, rfl⟩, fun _ h => absurd h List.not_mem_nil⟩⟩⟩) hJ (fun _ h => absurd h List.not_mem_nil) (fun M' hj => LJ_by hT hI hH hm hf (fun a b => Or.inl ⟨a, b⟩) hj (by decide +kernel))
  · exact help_of (e := eh_113) (Q := LJ u s H) hl0 (all_RRS hl0) ckhb_113 rfl rfl (by decide +kernel) (by decide +kernel) rfl (List.forall_mem_cons.mpr ⟨⟨_, rfl, rfl⟩, List.forall_mem_cons.mpr ⟨⟨_, rfl, x1, rfl, in_full x1⟩, List.forall_mem_cons.mpr ⟨⟨_, rfl, rfl⟩, fun _ h => absurd h List.not_mem_nil⟩⟩⟩) hJ (fun _ h => absurd h List.not_mem_nil) (fun M' hj => LJ_by hT hI hH hm hf (fun a b => Or.inr ⟨a, b⟩) hj (by decide +kernel))
theorem lm_215 {l : aL} (hl0 : l.1.stackTraces = false) {M : aM} {u : Nat → Nat} {s : Nat} {H : HS} (h : LJ u s H M) {x1 : Int32} : AC l (pI pg 215) (gcI (fun _ M' => LJ u s H M')) 0 0 [.ref 58, .int x1] SHF M := by
  obtain ⟨hT, hI, hC, hm, hf⟩ := h
  rcases hC with ⟨hJ, hH⟩ | ⟨hJ, hH⟩
  · exact gcI_of (e := en_109) (Q := LJ u s H) hl0 (ok_109 hl0 (ctA_RR hl0) _ List.mem_cons_self) rfl rfl ⟨rfl, ⟨x1, rfl, in_full x1⟩, trivial⟩ hJ (fun _ h => absurd h List.not_mem_nil) (fun M' hj => LJ_by hT hI hH hm hf (fun a b => Or.inl ⟨a, b⟩) hj (by decide +kernel))
  · exact gcI_of (e := ens_109) (Q := LJ u s H) hl0 (oks_109 hl0 (ctA_RRS hl0) _ List.mem_cons_self) rfl rfl ⟨rfl, ⟨x1, rfl, in_full x1⟩, trivial⟩ hJ (fun _ h => absurd h List.not_mem_nil) (fun M' hj => LJ_by hT hI hH hm hf (fun a b => Or.inr ⟨a, b⟩) hj (by decide +kernel))
def eh_116 : cE := (116, [some (.inl (.ref 0)), some (.inr ((-2147483648), 2147483647)), some (.inl (.ref 93))], [], ([], []), [(some (some (.inr (0, 2))), [])], [], 2, 12)
set_option maxRecDepth 100000 in
theorem ckha_116 : mCF pg RR SHF mtL ct_166 eh_116 [] [] [] 60 0 [(0, some (.inl (.ref 0))), (1, some (.inr ((-2147483648), 2147483647))), (2, some (.inl (.ref 93)))] = true := by decide +kernel
set_option maxRecDepth 100000 in
theorem ckhb_116 : mCF pg RRS SHF mtL cts_166 eh_116 [] [] [] 60 0 [(0, some (.inl (.ref 0))), (1, some (.inr ((-2147483648), 2147483647))), (2, some (.inl (.ref 93)))] = true := by decide +kernel
theorem lh_116 {l : aL} (hl0 : l.1.stackTraces = false) {M : aM} {u : Nat → Nat} {s : Nat} {H : HS} (h : LJ u s H M) {x1 : Int32} : ∀ hh, iT (pI pg 116) = tableOf hh → ACH l (pI pg 116) hh (gcI (fun _ M' => LJ u s H M')) 2 12 [.ref 0, .int x1, .ref 93] SHF M := by
  obtain ⟨hT, hI, hC, hm, hf⟩ := h
  rcases hC with ⟨hJ, hH⟩ | ⟨hJ, hH⟩
  · exact help_of (e := eh_116) (Q := LJ u s H) hl0 (all_RR hl0) ckha_116 rfl rfl (by decide +kernel) (by decide +kernel) rfl (List.forall_mem_cons.mpr ⟨⟨_, rfl, rfl⟩, List.forall_mem_cons.mpr ⟨⟨_, rfl, x1, rfl, in_full x1⟩, List.forall_mem_cons.mpr ⟨⟨_, rfl, rfl⟩, fun _ h => absurd h List.not_mem_nil⟩⟩⟩) hJ (fun _ h => absurd h List.not_mem_nil) (fun M' hj => LJ_by hT hI hH hm hf (fun a b => Or.inl ⟨a, b⟩) hj (by decide +kernel))
  · exact help_of (e := eh_116) (Q := LJ u s H) hl0 (all_RRS hl0) ckhb_116 rfl rfl (by decide +kernel) (by decide +kernel) rfl (List.forall_mem_cons.mpr ⟨⟨_, rfl, rfl⟩, List.forall_mem_cons.mpr ⟨⟨_, rfl, x1, rfl, in_full x1⟩, List.forall_mem_cons.mpr ⟨⟨_, rfl, rfl⟩, fun _ h => absurd h List.not_mem_nil⟩⟩⟩) hJ (fun _ h => absurd h List.not_mem_nil) (fun M' hj => LJ_by hT hI hH hm hf (fun a b => Or.inr ⟨a, b⟩) hj (by decide +kernel))
theorem lm_218 {l : aL} (hl0 : l.1.stackTraces = false) {M : aM} {u : Nat → Nat} {s : Nat} {H : HS} (h : LJ u s H M) {x1 : Int32} : AC l (pI pg 218) (gcI (fun _ M' => LJ u s H M')) 0 0 [.ref 58, .int x1] SHF M := by
  obtain ⟨hT, hI, hC, hm, hf⟩ := h
  rcases hC with ⟨hJ, hH⟩ | ⟨hJ, hH⟩
  · exact gcI_of (e := en_110) (Q := LJ u s H) hl0 (ok_110 hl0 (ctA_RR hl0) _ List.mem_cons_self) rfl rfl ⟨rfl, ⟨x1, rfl, in_full x1⟩, trivial⟩ hJ (fun _ h => absurd h List.not_mem_nil) (fun M' hj => LJ_by hT hI hH hm hf (fun a b => Or.inl ⟨a, b⟩) hj (by decide +kernel))
  · exact gcI_of (e := ens_110) (Q := LJ u s H) hl0 (oks_110 hl0 (ctA_RRS hl0) _ List.mem_cons_self) rfl rfl ⟨rfl, ⟨x1, rfl, in_full x1⟩, trivial⟩ hJ (fun _ h => absurd h List.not_mem_nil) (fun M' hj => LJ_by hT hI hH hm hf (fun a b => Or.inr ⟨a, b⟩) hj (by decide +kernel))
theorem lm_27 {l : aL} (hl0 : l.1.stackTraces = false) {M : aM} {u : Nat → Nat} {s : Nat} {H : HS} (h : LJ u s H M) {x1 x2 : Int32} : AC l (pI pg 27) (gcI (fun _ M' => LJ u s H M')) 2 12 [.ref 0, .int x1, .int x2] SHF M := by
  obtain ⟨hT, hI, hC, hm, hf⟩ := h
  rcases hC with ⟨hJ, hH⟩ | ⟨hJ, hH⟩
  · exact gcI_of (e := en_21) (Q := LJ u s H) hl0 (ok_21 hl0 (ctA_RR hl0) _ List.mem_cons_self) rfl rfl ⟨rfl, ⟨x1, rfl, in_full x1⟩, ⟨x2, rfl, in_full x2⟩, trivial⟩ hJ (fun _ h => absurd h List.not_mem_nil) (fun M' hj => LJ_by hT hI hH hm hf (fun a b => Or.inl ⟨a, b⟩) hj (by decide +kernel))
  · exact gcI_of (e := ens_21) (Q := LJ u s H) hl0 (oks_21 hl0 (ctA_RRS hl0) _ List.mem_cons_self) rfl rfl ⟨rfl, ⟨x1, rfl, in_full x1⟩, ⟨x2, rfl, in_full x2⟩, trivial⟩ hJ (fun _ h => absurd h List.not_mem_nil) (fun M' hj => LJ_by hT hI hH hm hf (fun a b => Or.inr ⟨a, b⟩) hj (by decide +kernel))
theorem lm_219 {l : aL} (hl0 : l.1.stackTraces = false) {M : aM} {u : Nat → Nat} {s : Nat} {H : HS} (h : LJ u s H M) {x1 x2 : Int32} : AC l (pI pg 219) (gcI (fun _ M' => LJ u s H M')) 0 0 [.ref 58, .int x1, .int x2] SHF M := by
  obtain ⟨hT, hI, hC, hm, hf⟩ := h
  rcases hC with ⟨hJ, hH⟩ | ⟨hJ, hH⟩
  · exact gcI_of (e := en_111) (Q := LJ u s H) hl0 (ok_111 hl0 (ctA_RR hl0) _ List.mem_cons_self) rfl rfl ⟨rfl, ⟨x1, rfl, in_full x1⟩, ⟨x2, rfl, in_full x2⟩, trivial⟩ hJ (fun _ h => absurd h List.not_mem_nil) (fun M' hj => LJ_by hT hI hH hm hf (fun a b => Or.inl ⟨a, b⟩) hj (by decide +kernel))
  · exact gcI_of (e := ens_111) (Q := LJ u s H) hl0 (oks_111 hl0 (ctA_RRS hl0) _ List.mem_cons_self) rfl rfl ⟨rfl, ⟨x1, rfl, in_full x1⟩, ⟨x2, rfl, in_full x2⟩, trivial⟩ hJ (fun _ h => absurd h List.not_mem_nil) (fun M' hj => LJ_by hT hI hH hm hf (fun a b => Or.inr ⟨a, b⟩) hj (by decide +kernel))
def eh_120 : cE := (120, [some (.inl (.ref 0)), some (.inr ((-2147483648), 2147483647)), some (.inl (.ref 93))], [], ([], []), [(some (some (.inr (0, 2))), [])], [], 2, 12)
set_option maxRecDepth 100000 in
theorem ckha_120 : mCF pg RR SHF mtL ct_166 eh_120 [] [] [] 60 0 [(0, some (.inl (.ref 0))), (1, some (.inr ((-2147483648), 2147483647))), (2, some (.inl (.ref 93)))] = true := by decide +kernel
set_option maxRecDepth 100000 in
theorem ckhb_120 : mCF pg RRS SHF mtL cts_166 eh_120 [] [] [] 60 0 [(0, some (.inl (.ref 0))), (1, some (.inr ((-2147483648), 2147483647))), (2, some (.inl (.ref 93)))] = true := by decide +kernel
theorem lh_120 {l : aL} (hl0 : l.1.stackTraces = false) {M : aM} {u : Nat → Nat} {s : Nat} {H : HS} (h : LJ u s H M) {x1 : Int32} : ∀ hh, iT (pI pg 120) = tableOf hh → ACH l (pI pg 120) hh (gcI (fun _ M' => LJ u s H M')) 2 12 [.ref 0, .int x1, .ref 93] SHF M := by
  obtain ⟨hT, hI, hC, hm, hf⟩ := h
  rcases hC with ⟨hJ, hH⟩ | ⟨hJ, hH⟩
  · exact help_of (e := eh_120) (Q := LJ u s H) hl0 (all_RR hl0) ckha_120 rfl rfl (by decide +kernel) (by decide +kernel) rfl (List.forall_mem_cons.mpr ⟨⟨_, rfl, rfl⟩, List.forall_mem_cons.mpr ⟨⟨_, rfl, x1, rfl, in_full x1⟩, List.forall_mem_cons.mpr ⟨⟨_, rfl, rfl⟩, fun _ h => absurd h List.not_mem_nil⟩⟩⟩) hJ (fun _ h => absurd h List.not_mem_nil) (fun M' hj => LJ_by hT hI hH hm hf (fun a b => Or.inl ⟨a, b⟩) hj (by decide +kernel))
  · exact help_of (e := eh_120) (Q := LJ u s H) hl0 (all_RRS hl0) ckhb_120 rfl rfl (by decide +kernel) (by decide +kernel) rfl (List.forall_mem_cons.mpr ⟨⟨_, rfl, rfl⟩, List.forall_mem_cons.mpr ⟨⟨_, rfl, x1, rfl, in_full x1⟩, List.forall_mem_cons.mpr ⟨⟨_, rfl, rfl⟩, fun _ h => absurd h List.not_mem_nil⟩⟩⟩) hJ (fun _ h => absurd h List.not_mem_nil) (fun M' hj => LJ_by hT hI hH hm hf (fun a b => Or.inr ⟨a, b⟩) hj (by decide +kernel))
theorem lm_220 {l : aL} (hl0 : l.1.stackTraces = false) {M : aM} {u : Nat → Nat} {s : Nat} {H : HS} (h : LJ u s H M) {x1 : Int32} : AC l (pI pg 220) (gcI (fun _ M' => LJ u s H M')) 0 0 [.ref 58, .int x1] SHF M := by
  obtain ⟨hT, hI, hC, hm, hf⟩ := h
  rcases hC with ⟨hJ, hH⟩ | ⟨hJ, hH⟩
  · exact gcI_of (e := en_113) (Q := LJ u s H) hl0 (ok_113 hl0 (ctA_RR hl0) _ List.mem_cons_self) rfl rfl ⟨rfl, ⟨x1, rfl, in_full x1⟩, trivial⟩ hJ (fun _ h => absurd h List.not_mem_nil) (fun M' hj => LJ_by hT hI hH hm hf (fun a b => Or.inl ⟨a, b⟩) hj (by decide +kernel))
  · exact gcI_of (e := ens_113) (Q := LJ u s H) hl0 (oks_113 hl0 (ctA_RRS hl0) _ List.mem_cons_self) rfl rfl ⟨rfl, ⟨x1, rfl, in_full x1⟩, trivial⟩ hJ (fun _ h => absurd h List.not_mem_nil) (fun M' hj => LJ_by hT hI hH hm hf (fun a b => Or.inr ⟨a, b⟩) hj (by decide +kernel))
def eh_123 : cE := (123, [some (.inl (.ref 0)), some (.inr ((-2147483648), 2147483647)), some (.inl (.ref 93))], [], ([], []), [(some (some (.inr (0, 2))), [])], [], 2, 12)
set_option maxRecDepth 100000 in
theorem ckha_123 : mCF pg RR SHF mtL ct_166 eh_123 [] [] [] 60 0 [(0, some (.inl (.ref 0))), (1, some (.inr ((-2147483648), 2147483647))), (2, some (.inl (.ref 93)))] = true := by decide +kernel
set_option maxRecDepth 100000 in
theorem ckhb_123 : mCF pg RRS SHF mtL cts_166 eh_123 [] [] [] 60 0 [(0, some (.inl (.ref 0))), (1, some (.inr ((-2147483648), 2147483647))), (2, some (.inl (.ref 93)))] = true := by decide +kernel
theorem lh_123 {l : aL} (hl0 : l.1.stackTraces = false) {M : aM} {u : Nat → Nat} {s : Nat} {H : HS} (h : LJ u s H M) {x1 : Int32} : ∀ hh, iT (pI pg 123) = tableOf hh → ACH l (pI pg 123) hh (gcI (fun _ M' => LJ u s H M')) 2 12 [.ref 0, .int x1, .ref 93] SHF M := by
  obtain ⟨hT, hI, hC, hm, hf⟩ := h
  rcases hC with ⟨hJ, hH⟩ | ⟨hJ, hH⟩
  · exact help_of (e := eh_123) (Q := LJ u s H) hl0 (all_RR hl0) ckha_123 rfl rfl (by decide +kernel) (by decide +kernel) rfl (List.forall_mem_cons.mpr ⟨⟨_, rfl, rfl⟩, List.forall_mem_cons.mpr ⟨⟨_, rfl, x1, rfl, in_full x1⟩, List.forall_mem_cons.mpr ⟨⟨_, rfl, rfl⟩, fun _ h => absurd h List.not_mem_nil⟩⟩⟩) hJ (fun _ h => absurd h List.not_mem_nil) (fun M' hj => LJ_by hT hI hH hm hf (fun a b => Or.inl ⟨a, b⟩) hj (by decide +kernel))
  · exact help_of (e := eh_123) (Q := LJ u s H) hl0 (all_RRS hl0) ckhb_123 rfl rfl (by decide +kernel) (by decide +kernel) rfl (List.forall_mem_cons.mpr ⟨⟨_, rfl, rfl⟩, List.forall_mem_cons.mpr ⟨⟨_, rfl, x1, rfl, in_full x1⟩, List.forall_mem_cons.mpr ⟨⟨_, rfl, rfl⟩, fun _ h => absurd h List.not_mem_nil⟩⟩⟩) hJ (fun _ h => absurd h List.not_mem_nil) (fun M' hj => LJ_by hT hI hH hm hf (fun a b => Or.inr ⟨a, b⟩) hj (by decide +kernel))
theorem lm_222 {l : aL} (hl0 : l.1.stackTraces = false) {M : aM} {u : Nat → Nat} {s : Nat} {H : HS} (h : LJ u s H M) {x1 : Int32} : AC l (pI pg 222) (gcI (fun _ M' => LJ u s H M')) 0 0 [.ref 58, .int x1] SHF M := by
  obtain ⟨hT, hI, hC, hm, hf⟩ := h
  rcases hC with ⟨hJ, hH⟩ | ⟨hJ, hH⟩
  · exact gcI_of (e := en_116) (Q := LJ u s H) hl0 (ok_116 hl0 (ctA_RR hl0) _ List.mem_cons_self) rfl rfl ⟨rfl, ⟨x1, rfl, in_full x1⟩, trivial⟩ hJ (fun _ h => absurd h List.not_mem_nil) (fun M' hj => LJ_by hT hI hH hm hf (fun a b => Or.inl ⟨a, b⟩) hj (by decide +kernel))
  · exact gcI_of (e := ens_116) (Q := LJ u s H) hl0 (oks_116 hl0 (ctA_RRS hl0) _ List.mem_cons_self) rfl rfl ⟨rfl, ⟨x1, rfl, in_full x1⟩, trivial⟩ hJ (fun _ h => absurd h List.not_mem_nil) (fun M' hj => LJ_by hT hI hH hm hf (fun a b => Or.inr ⟨a, b⟩) hj (by decide +kernel))
def eh_128 : cE := (128, [some (.inl (.ref 0)), some (.inr (0, 1)), some (.inr ((-2147483648), 2147483647)), some (.inl (.ref 93))], [], ([44], [(40, 2), (40, 3)]), [(some (some (.inr (0, 2))), [])], [], 2, 12)
set_option maxRecDepth 100000 in
theorem ckha_128 : mCF pg RR SHF mtL ct_166 eh_128 [] [] [] 60 0 [(0, some (.inl (.ref 0))), (1, some (.inr (0, 1))), (2, some (.inr ((-2147483648), 2147483647))), (3, some (.inl (.ref 93)))] = true := by decide +kernel
set_option maxRecDepth 100000 in
theorem ckhb_128 : mCF pg RRS SHF mtL cts_166 eh_128 [] [] [] 60 0 [(0, some (.inl (.ref 0))), (1, some (.inr (0, 1))), (2, some (.inr ((-2147483648), 2147483647))), (3, some (.inl (.ref 93)))] = true := by decide +kernel
theorem lh_128 {l : aL} (hl0 : l.1.stackTraces = false) {M : aM} {u : Nat → Nat} {s : Nat} {H : HS} (h : LJ u s H M) {b1 x2 : Int32} (hb1 : inI b1 (0, 1)) : ∀ hh, iT (pI pg 128) = tableOf hh → ACH l (pI pg 128) hh (gcI (fun _ M' => LJ u s H M')) 2 12 [.ref 0, .int b1, .int x2, .ref 93] SHF M := by
  obtain ⟨hT, hI, hC, hm, hf⟩ := h
  rcases hC with ⟨hJ, hH⟩ | ⟨hJ, hH⟩
  · exact help_of (e := eh_128) (Q := LJ u s H) hl0 (all_RR hl0) ckha_128 rfl rfl (by decide +kernel) (by decide +kernel) rfl (List.forall_mem_cons.mpr ⟨⟨_, rfl, rfl⟩, List.forall_mem_cons.mpr ⟨⟨_, rfl, b1, rfl, hb1⟩, List.forall_mem_cons.mpr ⟨⟨_, rfl, x2, rfl, in_full x2⟩, List.forall_mem_cons.mpr ⟨⟨_, rfl, rfl⟩, fun _ h => absurd h List.not_mem_nil⟩⟩⟩⟩) hJ (fun _ h => absurd h List.not_mem_nil) (fun M' hj => LJ_by hT hI hH hm hf (fun a b => Or.inl ⟨a, b⟩) hj (by decide +kernel))
  · exact help_of (e := eh_128) (Q := LJ u s H) hl0 (all_RRS hl0) ckhb_128 rfl rfl (by decide +kernel) (by decide +kernel) rfl (List.forall_mem_cons.mpr ⟨⟨_, rfl, rfl⟩, List.forall_mem_cons.mpr ⟨⟨_, rfl, b1, rfl, hb1⟩, List.forall_mem_cons.mpr ⟨⟨_, rfl, x2, rfl, in_full x2⟩, List.forall_mem_cons.mpr ⟨⟨_, rfl, rfl⟩, fun _ h => absurd h List.not_mem_nil⟩⟩⟩⟩) hJ (fun _ h => absurd h List.not_mem_nil) (fun M' hj => LJ_by hT hI hH hm hf (fun a b => Or.inr ⟨a, b⟩) hj (by decide +kernel))
theorem lm_224 {l : aL} (hl0 : l.1.stackTraces = false) {M : aM} {u : Nat → Nat} {s : Nat} {H : HS} (h : LJ u s H M) {b1 x2 : Int32} (hb1 : inI b1 (0, 1)) : AC l (pI pg 224) (gcI (fun _ M' => LJ u s H M')) 0 0 [.ref 58, .int b1, .int x2] SHF M := by
  obtain ⟨hT, hI, hC, hm, hf⟩ := h
  rcases hC with ⟨hJ, hH⟩ | ⟨hJ, hH⟩
  · exact gcI_of (e := en_158) (Q := LJ u s H) hl0 (ok_158 hl0 (ctA_RR hl0) _ List.mem_cons_self) rfl rfl ⟨rfl, ⟨b1, rfl, hb1⟩, ⟨x2, rfl, in_full x2⟩, trivial⟩ hJ (fun _ h => absurd h List.not_mem_nil) (fun M' hj => LJ_by hT hI hH hm hf (fun a b => Or.inl ⟨a, b⟩) hj (by decide +kernel))
  · exact gcI_of (e := ens_158) (Q := LJ u s H) hl0 (oks_158 hl0 (ctA_RRS hl0) _ List.mem_cons_self) rfl rfl ⟨rfl, ⟨b1, rfl, hb1⟩, ⟨x2, rfl, in_full x2⟩, trivial⟩ hJ (fun _ h => absurd h List.not_mem_nil) (fun M' hj => LJ_by hT hI hH hm hf (fun a b => Or.inr ⟨a, b⟩) hj (by decide +kernel))
theorem lm_30 {l : aL} (hl0 : l.1.stackTraces = false) {M : aM} {u : Nat → Nat} {s : Nat} {H : HS} (h : LJ u s H M)  : AC l (pI pg 30) (gcI (fun _ M' => LJ u s H M')) 2 12 [.ref 0] SHF M := by
  obtain ⟨hT, hI, hC, hm, hf⟩ := h
  rcases hC with ⟨hJ, hH⟩ | ⟨hJ, hH⟩
  · exact gcI_of (e := en_37) (Q := LJ u s H) hl0 (ok_37 hl0 (ctA_RR hl0) _ List.mem_cons_self) rfl rfl ⟨rfl, trivial⟩ hJ (fun _ h => absurd h List.not_mem_nil) (fun M' hj => LJ_by hT hI hH hm hf (fun a b => Or.inl ⟨a, b⟩) hj (by decide +kernel))
  · exact gcI_of (e := ens_37) (Q := LJ u s H) hl0 (oks_37 hl0 (ctA_RRS hl0) _ List.mem_cons_self) rfl rfl ⟨rfl, trivial⟩ hJ (fun _ h => absurd h List.not_mem_nil) (fun M' hj => LJ_by hT hI hH hm hf (fun a b => Or.inr ⟨a, b⟩) hj (by decide +kernel))
theorem lm_227 {l : aL} (hl0 : l.1.stackTraces = false) {M : aM} {u : Nat → Nat} {s : Nat} {H : HS} (h : LJ u s H M)  : AC l (pI pg 227) (gcI (fun _ M' => LJ u s H M')) 0 0 [.ref 58] SHF M := by
  obtain ⟨hT, hI, hC, hm, hf⟩ := h
  rcases hC with ⟨hJ, hH⟩ | ⟨hJ, hH⟩
  · exact gcI_of (e := en_117) (Q := LJ u s H) hl0 (ok_117 hl0 (ctA_RR hl0) _ List.mem_cons_self) rfl rfl ⟨rfl, trivial⟩ hJ (fun _ h => absurd h List.not_mem_nil) (fun M' hj => LJ_by hT hI hH hm hf (fun a b => Or.inl ⟨a, b⟩) hj (by decide +kernel))
  · exact gcI_of (e := ens_117) (Q := LJ u s H) hl0 (oks_117 hl0 (ctA_RRS hl0) _ List.mem_cons_self) rfl rfl ⟨rfl, trivial⟩ hJ (fun _ h => absurd h List.not_mem_nil) (fun M' hj => LJ_by hT hI hH hm hf (fun a b => Or.inr ⟨a, b⟩) hj (by decide +kernel))
def eh_138 : cE := (138, [some (.inl (.ref 0)), some (.inr ((-2147483648), 2147483647)), some (.inr ((-2147483648), 2147483647)), some (.inl (.ref 93))], [], ([], []), [(some (some (.inr (0, 2))), [])], [], 2, 12)
set_option maxRecDepth 100000 in
theorem ckha_138 : mCF pg RR SHF mtL (en_worthC :: ct_166) eh_138 [] [] [] 60 0 [(0, some (.inl (.ref 0))), (1, some (.inr ((-2147483648), 2147483647))), (2, some (.inr ((-2147483648), 2147483647))), (3, some (.inl (.ref 93)))] = true := by decide +kernel
set_option maxRecDepth 100000 in
theorem ckhb_138 : mCF pg RRS SHF mtL (en_worthC :: cts_166) eh_138 [] [] [] 60 0 [(0, some (.inl (.ref 0))), (1, some (.inr ((-2147483648), 2147483647))), (2, some (.inr ((-2147483648), 2147483647))), (3, some (.inl (.ref 93)))] = true := by decide +kernel
theorem lh_138 {l : aL} (hl0 : l.1.stackTraces = false) {M : aM} {u : Nat → Nat} {s : Nat} {H : HS} (h : LJ u s H M) {x1 x2 : Int32} : ∀ hh, iT (pI pg 138) = tableOf hh → ACH l (pI pg 138) hh (gcI (fun _ M' => LJ u s H M')) 2 12 [.ref 0, .int x1, .int x2, .ref 93] SHF M := by
  obtain ⟨hT, hI, hC, hm, hf⟩ := h
  rcases hC with ⟨hJ, hH⟩ | ⟨hJ, hH⟩
  · exact help_of (e := eh_138) (Q := LJ u s H) hl0 (List.forall_mem_cons.mpr ⟨worthC_a hl0, all_RR hl0⟩) ckha_138 rfl rfl (by decide +kernel) (by decide +kernel) rfl (List.forall_mem_cons.mpr ⟨⟨_, rfl, rfl⟩, List.forall_mem_cons.mpr ⟨⟨_, rfl, x1, rfl, in_full x1⟩, List.forall_mem_cons.mpr ⟨⟨_, rfl, x2, rfl, in_full x2⟩, List.forall_mem_cons.mpr ⟨⟨_, rfl, rfl⟩, fun _ h => absurd h List.not_mem_nil⟩⟩⟩⟩) hJ (fun _ h => absurd h List.not_mem_nil) (fun M' hj => LJ_by hT hI hH hm hf (fun a b => Or.inl ⟨a, b⟩) hj (by decide +kernel))
  · exact help_of (e := eh_138) (Q := LJ u s H) hl0 (List.forall_mem_cons.mpr ⟨worthC_b hl0, all_RRS hl0⟩) ckhb_138 rfl rfl (by decide +kernel) (by decide +kernel) rfl (List.forall_mem_cons.mpr ⟨⟨_, rfl, rfl⟩, List.forall_mem_cons.mpr ⟨⟨_, rfl, x1, rfl, in_full x1⟩, List.forall_mem_cons.mpr ⟨⟨_, rfl, x2, rfl, in_full x2⟩, List.forall_mem_cons.mpr ⟨⟨_, rfl, rfl⟩, fun _ h => absurd h List.not_mem_nil⟩⟩⟩⟩) hJ (fun _ h => absurd h List.not_mem_nil) (fun M' hj => LJ_by hT hI hH hm hf (fun a b => Or.inr ⟨a, b⟩) hj (by decide +kernel))
theorem lm_228 {l : aL} (hl0 : l.1.stackTraces = false) {M : aM} {u : Nat → Nat} {s : Nat} {H : HS} (h : LJ u s H M) {x1 x2 : Int32} : AC l (pI pg 228) (gcI (fun _ M' => LJ u s H M')) 0 0 [.ref 58, .int x1, .int x2] SHF M := by
  obtain ⟨hT, hI, hC, hm, hf⟩ := h
  rcases hC with ⟨hJ, hH⟩ | ⟨hJ, hH⟩
  · exact gcI_of (e := en_worthR) (Q := LJ u s H) hl0 (worthR_a hl0) rfl rfl ⟨rfl, ⟨x1, rfl, in_full x1⟩, ⟨x2, rfl, in_full x2⟩, trivial⟩ hJ (fun _ h => absurd h List.not_mem_nil) (fun M' hj => LJ_by hT hI hH hm hf (fun a b => Or.inl ⟨a, b⟩) hj (by decide +kernel))
  · exact gcI_of (e := en_worthR) (Q := LJ u s H) hl0 (worthR_b hl0) rfl rfl ⟨rfl, ⟨x1, rfl, in_full x1⟩, ⟨x2, rfl, in_full x2⟩, trivial⟩ hJ (fun _ h => absurd h List.not_mem_nil) (fun M' hj => LJ_by hT hI hH hm hf (fun a b => Or.inr ⟨a, b⟩) hj (by decide +kernel))
def eh_143 : cE := (143, [some (.inl (.ref 0)), some (.inr ((-2147483648), 2147483647)), some (.inl (.ref 93))], [], ([46, 47], [(36, 3), (45, 2)]), [(some (some (.inr (0, 2))), [])], [], 2, 12)
set_option maxRecDepth 100000 in
theorem ckha_143 : mCF pg RR SHF mtL ct_166 eh_143 [] [] [] 60 0 [(0, some (.inl (.ref 0))), (1, some (.inr ((-2147483648), 2147483647))), (2, some (.inl (.ref 93)))] = true := by decide +kernel
set_option maxRecDepth 100000 in
theorem ckhb_143 : mCF pg RRS SHF mtL cts_166 eh_143 [] [] [] 60 0 [(0, some (.inl (.ref 0))), (1, some (.inr ((-2147483648), 2147483647))), (2, some (.inl (.ref 93)))] = true := by decide +kernel
theorem lh_143 {l : aL} (hl0 : l.1.stackTraces = false) {M : aM} {u : Nat → Nat} {s : Nat} {H : HS} (h : LJ u s H M) {x1 : Int32} : ∀ hh, iT (pI pg 143) = tableOf hh → ACH l (pI pg 143) hh (gcI (fun _ M' => LJ u s H M')) 2 12 [.ref 0, .int x1, .ref 93] SHF M := by
  obtain ⟨hT, hI, hC, hm, hf⟩ := h
  rcases hC with ⟨hJ, hH⟩ | ⟨hJ, hH⟩
  · exact help_of (e := eh_143) (Q := LJ u s H) hl0 (all_RR hl0) ckha_143 rfl rfl (by decide +kernel) (by decide +kernel) rfl (List.forall_mem_cons.mpr ⟨⟨_, rfl, rfl⟩, List.forall_mem_cons.mpr ⟨⟨_, rfl, x1, rfl, in_full x1⟩, List.forall_mem_cons.mpr ⟨⟨_, rfl, rfl⟩, fun _ h => absurd h List.not_mem_nil⟩⟩⟩) hJ (fun _ h => absurd h List.not_mem_nil) (fun M' hj => LJ_by hT hI hH hm hf (fun a b => Or.inl ⟨a, b⟩) hj (by decide +kernel))
  · exact help_of (e := eh_143) (Q := LJ u s H) hl0 (all_RRS hl0) ckhb_143 rfl rfl (by decide +kernel) (by decide +kernel) rfl (List.forall_mem_cons.mpr ⟨⟨_, rfl, rfl⟩, List.forall_mem_cons.mpr ⟨⟨_, rfl, x1, rfl, in_full x1⟩, List.forall_mem_cons.mpr ⟨⟨_, rfl, rfl⟩, fun _ h => absurd h List.not_mem_nil⟩⟩⟩) hJ (fun _ h => absurd h List.not_mem_nil) (fun M' hj => LJ_by hT hI hH hm hf (fun a b => Or.inr ⟨a, b⟩) hj (by decide +kernel))
theorem lm_230 {l : aL} (hl0 : l.1.stackTraces = false) {M : aM} {u : Nat → Nat} {s : Nat} {H : HS} (h : LJ u s H M) {x1 : Int32} : AC l (pI pg 230) (gcI (fun _ M' => LJ u s H M')) 0 0 [.ref 58, .int x1] SHF M := by
  obtain ⟨hT, hI, hC, hm, hf⟩ := h
  rcases hC with ⟨hJ, hH⟩ | ⟨hJ, hH⟩
  · exact gcI_of (e := en_122) (Q := LJ u s H) hl0 (ok_122 hl0 (ctA_RR hl0) _ List.mem_cons_self) rfl rfl ⟨rfl, ⟨x1, rfl, in_full x1⟩, trivial⟩ hJ (fun _ h => absurd h List.not_mem_nil) (fun M' hj => LJ_by hT hI hH hm hf (fun a b => Or.inl ⟨a, b⟩) hj (by decide +kernel))
  · exact gcI_of (e := ens_122) (Q := LJ u s H) hl0 (oks_122 hl0 (ctA_RRS hl0) _ List.mem_cons_self) rfl rfl ⟨rfl, ⟨x1, rfl, in_full x1⟩, trivial⟩ hJ (fun _ h => absurd h List.not_mem_nil) (fun M' hj => LJ_by hT hI hH hm hf (fun a b => Or.inr ⟨a, b⟩) hj (by decide +kernel))
def eh_149 : cE := (149, [some (.inl (.ref 0)), some (.inr ((-2147483648), 2147483647)), some (.inl (.ref 93))], [], ([46, 47], [(36, 3), (45, 2)]), [(some (some (.inr (0, 2))), [])], [], 2, 12)
set_option maxRecDepth 100000 in
theorem ckha_149 : mCF pg RR SHF mtL ct_166 eh_149 [] [] [] 60 0 [(0, some (.inl (.ref 0))), (1, some (.inr ((-2147483648), 2147483647))), (2, some (.inl (.ref 93)))] = true := by decide +kernel
set_option maxRecDepth 100000 in
theorem ckhb_149 : mCF pg RRS SHF mtL cts_166 eh_149 [] [] [] 60 0 [(0, some (.inl (.ref 0))), (1, some (.inr ((-2147483648), 2147483647))), (2, some (.inl (.ref 93)))] = true := by decide +kernel
theorem lh_149 {l : aL} (hl0 : l.1.stackTraces = false) {M : aM} {u : Nat → Nat} {s : Nat} {H : HS} (h : LJ u s H M) {x1 : Int32} : ∀ hh, iT (pI pg 149) = tableOf hh → ACH l (pI pg 149) hh (gcI (fun _ M' => LJ u s H M')) 2 12 [.ref 0, .int x1, .ref 93] SHF M := by
  obtain ⟨hT, hI, hC, hm, hf⟩ := h
  rcases hC with ⟨hJ, hH⟩ | ⟨hJ, hH⟩
  · exact help_of (e := eh_149) (Q := LJ u s H) hl0 (all_RR hl0) ckha_149 rfl rfl (by decide +kernel) (by decide +kernel) rfl (List.forall_mem_cons.mpr ⟨⟨_, rfl, rfl⟩, List.forall_mem_cons.mpr ⟨⟨_, rfl, x1, rfl, in_full x1⟩, List.forall_mem_cons.mpr ⟨⟨_, rfl, rfl⟩, fun _ h => absurd h List.not_mem_nil⟩⟩⟩) hJ (fun _ h => absurd h List.not_mem_nil) (fun M' hj => LJ_by hT hI hH hm hf (fun a b => Or.inl ⟨a, b⟩) hj (by decide +kernel))
  · exact help_of (e := eh_149) (Q := LJ u s H) hl0 (all_RRS hl0) ckhb_149 rfl rfl (by decide +kernel) (by decide +kernel) rfl (List.forall_mem_cons.mpr ⟨⟨_, rfl, rfl⟩, List.forall_mem_cons.mpr ⟨⟨_, rfl, x1, rfl, in_full x1⟩, List.forall_mem_cons.mpr ⟨⟨_, rfl, rfl⟩, fun _ h => absurd h List.not_mem_nil⟩⟩⟩) hJ (fun _ h => absurd h List.not_mem_nil) (fun M' hj => LJ_by hT hI hH hm hf (fun a b => Or.inr ⟨a, b⟩) hj (by decide +kernel))
theorem lm_235 {l : aL} (hl0 : l.1.stackTraces = false) {M : aM} {u : Nat → Nat} {s : Nat} {H : HS} (h : LJ u s H M) {x1 : Int32} : AC l (pI pg 235) (gcI (fun _ M' => LJ u s H M')) 0 0 [.ref 58, .int x1] SHF M := by
  obtain ⟨hT, hI, hC, hm, hf⟩ := h
  rcases hC with ⟨hJ, hH⟩ | ⟨hJ, hH⟩
  · exact gcI_of (e := en_123) (Q := LJ u s H) hl0 (ok_123 hl0 (ctA_RR hl0) _ List.mem_cons_self) rfl rfl ⟨rfl, ⟨x1, rfl, in_full x1⟩, trivial⟩ hJ (fun _ h => absurd h List.not_mem_nil) (fun M' hj => LJ_by hT hI hH hm hf (fun a b => Or.inl ⟨a, b⟩) hj (by decide +kernel))
  · exact gcI_of (e := ens_123) (Q := LJ u s H) hl0 (oks_123 hl0 (ctA_RRS hl0) _ List.mem_cons_self) rfl rfl ⟨rfl, ⟨x1, rfl, in_full x1⟩, trivial⟩ hJ (fun _ h => absurd h List.not_mem_nil) (fun M' hj => LJ_by hT hI hH hm hf (fun a b => Or.inr ⟨a, b⟩) hj (by decide +kernel))
def eh_151 : cE := (151, [some (.inl (.ref 0)), some (.inr ((-2147483648), 2147483647)), some (.inr ((-2147483648), 2147483647)), some (.inl (.ref 93))], [], ([], []), [(some (some (.inr (0, 2))), [])], [], 2, 12)
set_option maxRecDepth 100000 in
theorem ckha_151 : mCF pg RR SHF mtL ct_166 eh_151 [] [] [] 60 0 [(0, some (.inl (.ref 0))), (1, some (.inr ((-2147483648), 2147483647))), (2, some (.inr ((-2147483648), 2147483647))), (3, some (.inl (.ref 93)))] = true := by decide +kernel
set_option maxRecDepth 100000 in
theorem ckhb_151 : mCF pg RRS SHF mtL cts_166 eh_151 [] [] [] 60 0 [(0, some (.inl (.ref 0))), (1, some (.inr ((-2147483648), 2147483647))), (2, some (.inr ((-2147483648), 2147483647))), (3, some (.inl (.ref 93)))] = true := by decide +kernel
theorem lh_151 {l : aL} (hl0 : l.1.stackTraces = false) {M : aM} {u : Nat → Nat} {s : Nat} {H : HS} (h : LJ u s H M) {x1 x2 : Int32} : ∀ hh, iT (pI pg 151) = tableOf hh → ACH l (pI pg 151) hh (gcI (fun _ M' => LJ u s H M')) 2 12 [.ref 0, .int x1, .int x2, .ref 93] SHF M := by
  obtain ⟨hT, hI, hC, hm, hf⟩ := h
  rcases hC with ⟨hJ, hH⟩ | ⟨hJ, hH⟩
  · exact help_of (e := eh_151) (Q := LJ u s H) hl0 (all_RR hl0) ckha_151 rfl rfl (by decide +kernel) (by decide +kernel) rfl (List.forall_mem_cons.mpr ⟨⟨_, rfl, rfl⟩, List.forall_mem_cons.mpr ⟨⟨_, rfl, x1, rfl, in_full x1⟩, List.forall_mem_cons.mpr ⟨⟨_, rfl, x2, rfl, in_full x2⟩, List.forall_mem_cons.mpr ⟨⟨_, rfl, rfl⟩, fun _ h => absurd h List.not_mem_nil⟩⟩⟩⟩) hJ (fun _ h => absurd h List.not_mem_nil) (fun M' hj => LJ_by hT hI hH hm hf (fun a b => Or.inl ⟨a, b⟩) hj (by decide +kernel))
  · exact help_of (e := eh_151) (Q := LJ u s H) hl0 (all_RRS hl0) ckhb_151 rfl rfl (by decide +kernel) (by decide +kernel) rfl (List.forall_mem_cons.mpr ⟨⟨_, rfl, rfl⟩, List.forall_mem_cons.mpr ⟨⟨_, rfl, x1, rfl, in_full x1⟩, List.forall_mem_cons.mpr ⟨⟨_, rfl, x2, rfl, in_full x2⟩, List.forall_mem_cons.mpr ⟨⟨_, rfl, rfl⟩, fun _ h => absurd h List.not_mem_nil⟩⟩⟩⟩) hJ (fun _ h => absurd h List.not_mem_nil) (fun M' hj => LJ_by hT hI hH hm hf (fun a b => Or.inr ⟨a, b⟩) hj (by decide +kernel))
theorem lm_236 {l : aL} (hl0 : l.1.stackTraces = false) {M : aM} {u : Nat → Nat} {s : Nat} {H : HS} (h : LJ u s H M) {x1 x2 : Int32} : AC l (pI pg 236) (gcI (fun _ M' => LJ u s H M')) 0 0 [.ref 58, .int x1, .int x2] SHF M := by
  obtain ⟨hT, hI, hC, hm, hf⟩ := h
  rcases hC with ⟨hJ, hH⟩ | ⟨hJ, hH⟩
  · exact gcI_of (e := en_124) (Q := LJ u s H) hl0 (ok_124 hl0 (ctA_RR hl0) _ List.mem_cons_self) rfl rfl ⟨rfl, ⟨x1, rfl, in_full x1⟩, ⟨x2, rfl, in_full x2⟩, trivial⟩ hJ (fun _ h => absurd h List.not_mem_nil) (fun M' hj => LJ_by hT hI hH hm hf (fun a b => Or.inl ⟨a, b⟩) hj (by decide +kernel))
  · exact gcI_of (e := ens_124) (Q := LJ u s H) hl0 (oks_124 hl0 (ctA_RRS hl0) _ List.mem_cons_self) rfl rfl ⟨rfl, ⟨x1, rfl, in_full x1⟩, ⟨x2, rfl, in_full x2⟩, trivial⟩ hJ (fun _ h => absurd h List.not_mem_nil) (fun M' hj => LJ_by hT hI hH hm hf (fun a b => Or.inr ⟨a, b⟩) hj (by decide +kernel))
def eh_153 : cE := (153, [some (.inl (.ref 0)), some (.inr ((-2147483648), 2147483647)), some (.inr ((-2147483648), 2147483647)), some (.inl (.ref 93))], [], ([], []), [(some (some (.inr (0, 2))), [])], [], 2, 12)
set_option maxRecDepth 100000 in
theorem ckha_153 : mCF pg RR SHF mtL ct_166 eh_153 [] [] [] 60 0 [(0, some (.inl (.ref 0))), (1, some (.inr ((-2147483648), 2147483647))), (2, some (.inr ((-2147483648), 2147483647))), (3, some (.inl (.ref 93)))] = true := by decide +kernel
set_option maxRecDepth 100000 in
theorem ckhb_153 : mCF pg RRS SHF mtL cts_166 eh_153 [] [] [] 60 0 [(0, some (.inl (.ref 0))), (1, some (.inr ((-2147483648), 2147483647))), (2, some (.inr ((-2147483648), 2147483647))), (3, some (.inl (.ref 93)))] = true := by decide +kernel
theorem lh_153 {l : aL} (hl0 : l.1.stackTraces = false) {M : aM} {u : Nat → Nat} {s : Nat} {H : HS} (h : LJ u s H M) {x1 x2 : Int32} : ∀ hh, iT (pI pg 153) = tableOf hh → ACH l (pI pg 153) hh (gcI (fun _ M' => LJ u s H M')) 2 12 [.ref 0, .int x1, .int x2, .ref 93] SHF M := by
  obtain ⟨hT, hI, hC, hm, hf⟩ := h
  rcases hC with ⟨hJ, hH⟩ | ⟨hJ, hH⟩
  · exact help_of (e := eh_153) (Q := LJ u s H) hl0 (all_RR hl0) ckha_153 rfl rfl (by decide +kernel) (by decide +kernel) rfl (List.forall_mem_cons.mpr ⟨⟨_, rfl, rfl⟩, List.forall_mem_cons.mpr ⟨⟨_, rfl, x1, rfl, in_full x1⟩, List.forall_mem_cons.mpr ⟨⟨_, rfl, x2, rfl, in_full x2⟩, List.forall_mem_cons.mpr ⟨⟨_, rfl, rfl⟩, fun _ h => absurd h List.not_mem_nil⟩⟩⟩⟩) hJ (fun _ h => absurd h List.not_mem_nil) (fun M' hj => LJ_by hT hI hH hm hf (fun a b => Or.inl ⟨a, b⟩) hj (by decide +kernel))
  · exact help_of (e := eh_153) (Q := LJ u s H) hl0 (all_RRS hl0) ckhb_153 rfl rfl (by decide +kernel) (by decide +kernel) rfl (List.forall_mem_cons.mpr ⟨⟨_, rfl, rfl⟩, List.forall_mem_cons.mpr ⟨⟨_, rfl, x1, rfl, in_full x1⟩, List.forall_mem_cons.mpr ⟨⟨_, rfl, x2, rfl, in_full x2⟩, List.forall_mem_cons.mpr ⟨⟨_, rfl, rfl⟩, fun _ h => absurd h List.not_mem_nil⟩⟩⟩⟩) hJ (fun _ h => absurd h List.not_mem_nil) (fun M' hj => LJ_by hT hI hH hm hf (fun a b => Or.inr ⟨a, b⟩) hj (by decide +kernel))
theorem lm_237 {l : aL} (hl0 : l.1.stackTraces = false) {M : aM} {u : Nat → Nat} {s : Nat} {H : HS} (h : LJ u s H M) {x1 x2 : Int32} : AC l (pI pg 237) (gcI (fun _ M' => LJ u s H M')) 0 0 [.ref 58, .int x1, .int x2] SHF M := by
  obtain ⟨hT, hI, hC, hm, hf⟩ := h
  rcases hC with ⟨hJ, hH⟩ | ⟨hJ, hH⟩
  · exact gcI_of (e := en_125) (Q := LJ u s H) hl0 (ok_125 hl0 (ctA_RR hl0) _ List.mem_cons_self) rfl rfl ⟨rfl, ⟨x1, rfl, in_full x1⟩, ⟨x2, rfl, in_full x2⟩, trivial⟩ hJ (fun _ h => absurd h List.not_mem_nil) (fun M' hj => LJ_by hT hI hH hm hf (fun a b => Or.inl ⟨a, b⟩) hj (by decide +kernel))
  · exact gcI_of (e := ens_125) (Q := LJ u s H) hl0 (oks_125 hl0 (ctA_RRS hl0) _ List.mem_cons_self) rfl rfl ⟨rfl, ⟨x1, rfl, in_full x1⟩, ⟨x2, rfl, in_full x2⟩, trivial⟩ hJ (fun _ h => absurd h List.not_mem_nil) (fun M' hj => LJ_by hT hI hH hm hf (fun a b => Or.inr ⟨a, b⟩) hj (by decide +kernel))
theorem lm_33 {l : aL} (hl0 : l.1.stackTraces = false) {M : aM} {u : Nat → Nat} {s : Nat} {H : HS} (h : LJ u s H M) {x1 : Int32} : AC l (pI pg 33) (gcV (fun M' => LJ u s H M')) 2 12 [.ref 0, .int x1] SHF M := by
  obtain ⟨hT, hI, hC, hm, hf⟩ := h
  rcases hC with ⟨hJ, hH⟩ | ⟨hJ, hH⟩
  · exact gcV_of (e := en_48) (Q := LJ u s H) hl0 (ok_48 hl0 (ctA_RR hl0) _ List.mem_cons_self) rfl rfl ⟨rfl, ⟨x1, rfl, in_full x1⟩, trivial⟩ hJ (fun _ h => absurd h List.not_mem_nil) (fun M' hj => LJ_by hT hI hH hm hf (fun a b => Or.inl ⟨a, b⟩) hj (by decide +kernel))
  · exact gcV_of (e := ens_48) (Q := LJ u s H) hl0 (oks_48 hl0 (ctA_RRS hl0) _ List.mem_cons_self) rfl rfl ⟨rfl, ⟨x1, rfl, in_full x1⟩, trivial⟩ hJ (fun _ h => absurd h List.not_mem_nil) (fun M' hj => LJ_by hT hI hH hm hf (fun a b => Or.inr ⟨a, b⟩) hj (by decide +kernel))
theorem lm_238 {l : aL} (hl0 : l.1.stackTraces = false) {M : aM} {u : Nat → Nat} {s : Nat} {H : HS} (h : LJ u s H M) {x1 : Int32} : AC l (pI pg 238) (gcV (fun M' => LJ u s H M')) 0 0 [.ref 58, .int x1] SHF M := by
  obtain ⟨hT, hI, hC, hm, hf⟩ := h
  rcases hC with ⟨hJ, hH⟩ | ⟨hJ, hH⟩
  · exact gcV_of (e := en_126) (Q := LJ u s H) hl0 (ok_126 hl0 (ctA_RR hl0) _ List.mem_cons_self) rfl rfl ⟨rfl, ⟨x1, rfl, in_full x1⟩, trivial⟩ hJ (fun _ h => absurd h List.not_mem_nil) (fun M' hj => LJ_by hT hI hH hm hf (fun a b => Or.inl ⟨a, b⟩) hj (by decide +kernel))
  · exact gcV_of (e := ens_126) (Q := LJ u s H) hl0 (oks_126 hl0 (ctA_RRS hl0) _ List.mem_cons_self) rfl rfl ⟨rfl, ⟨x1, rfl, in_full x1⟩, trivial⟩ hJ (fun _ h => absurd h List.not_mem_nil) (fun M' hj => LJ_by hT hI hH hm hf (fun a b => Or.inr ⟨a, b⟩) hj (by decide +kernel))
def eh_155 : cE := (155, [some (.inl (.ref 0)), some (.inr ((-2147483648), 2147483647)), some (.inl (.ref 93))], [], ([50, 51, 52, 57], [(36, 3), (49, 1), (49, 2)]), [(some (some (.inr (0, 2))), [])], [], 2, 12)
set_option maxRecDepth 100000 in
theorem ckha_155 : mCF pg RR SHF mtL ct_166 eh_155 [] [] [] 60 0 [(0, some (.inl (.ref 0))), (1, some (.inr ((-2147483648), 2147483647))), (2, some (.inl (.ref 93)))] = true := by decide +kernel
set_option maxRecDepth 100000 in
theorem ckhb_155 : mCF pg RRS SHF mtL cts_166 eh_155 [] [] [] 60 0 [(0, some (.inl (.ref 0))), (1, some (.inr ((-2147483648), 2147483647))), (2, some (.inl (.ref 93)))] = true := by decide +kernel
theorem lh_155 {l : aL} (hl0 : l.1.stackTraces = false) {M : aM} {u : Nat → Nat} {s : Nat} {H : HS} (h : LJ u s H M) {x1 : Int32} : ∀ hh, iT (pI pg 155) = tableOf hh → ACH l (pI pg 155) hh (gcI (fun _ M' => LJ u s H M')) 2 12 [.ref 0, .int x1, .ref 93] SHF M := by
  obtain ⟨hT, hI, hC, hm, hf⟩ := h
  rcases hC with ⟨hJ, hH⟩ | ⟨hJ, hH⟩
  · exact help_of (e := eh_155) (Q := LJ u s H) hl0 (all_RR hl0) ckha_155 rfl rfl (by decide +kernel) (by decide +kernel) rfl (List.forall_mem_cons.mpr ⟨⟨_, rfl, rfl⟩, List.forall_mem_cons.mpr ⟨⟨_, rfl, x1, rfl, in_full x1⟩, List.forall_mem_cons.mpr ⟨⟨_, rfl, rfl⟩, fun _ h => absurd h List.not_mem_nil⟩⟩⟩) hJ (fun _ h => absurd h List.not_mem_nil) (fun M' hj => LJ_by hT hI hH hm hf (fun a b => Or.inl ⟨a, b⟩) hj (by decide +kernel))
  · exact help_of (e := eh_155) (Q := LJ u s H) hl0 (all_RRS hl0) ckhb_155 rfl rfl (by decide +kernel) (by decide +kernel) rfl (List.forall_mem_cons.mpr ⟨⟨_, rfl, rfl⟩, List.forall_mem_cons.mpr ⟨⟨_, rfl, x1, rfl, in_full x1⟩, List.forall_mem_cons.mpr ⟨⟨_, rfl, rfl⟩, fun _ h => absurd h List.not_mem_nil⟩⟩⟩) hJ (fun _ h => absurd h List.not_mem_nil) (fun M' hj => LJ_by hT hI hH hm hf (fun a b => Or.inr ⟨a, b⟩) hj (by decide +kernel))
theorem lm_239 {l : aL} (hl0 : l.1.stackTraces = false) {M : aM} {u : Nat → Nat} {s : Nat} {H : HS} (h : LJ u s H M) {x1 : Int32} : AC l (pI pg 239) (gcI (fun _ M' => LJ u s H M')) 0 0 [.ref 58, .int x1] SHF M := by
  obtain ⟨hT, hI, hC, hm, hf⟩ := h
  rcases hC with ⟨hJ, hH⟩ | ⟨hJ, hH⟩
  · exact gcI_of (e := en_127) (Q := LJ u s H) hl0 (ok_127 hl0 (ctA_RR hl0) _ List.mem_cons_self) rfl rfl ⟨rfl, ⟨x1, rfl, in_full x1⟩, trivial⟩ hJ (fun _ h => absurd h List.not_mem_nil) (fun M' hj => LJ_by hT hI hH hm hf (fun a b => Or.inl ⟨a, b⟩) hj (by decide +kernel))
  · exact gcI_of (e := ens_127) (Q := LJ u s H) hl0 (oks_127 hl0 (ctA_RRS hl0) _ List.mem_cons_self) rfl rfl ⟨rfl, ⟨x1, rfl, in_full x1⟩, trivial⟩ hJ (fun _ h => absurd h List.not_mem_nil) (fun M' hj => LJ_by hT hI hH hm hf (fun a b => Or.inr ⟨a, b⟩) hj (by decide +kernel))
def eh_163 : cE := (163, [some (.inl (.ref 0)), some (.inr ((-2147483648), 2147483647)), some (.inr ((-2147483648), 2147483647)), some (.inl (.ref 93))], [], ([], []), [(some (some (.inr (0, 2))), [])], [], 2, 12)
set_option maxRecDepth 100000 in
theorem ckha_163 : mCF pg RR SHF mtL ct_166 eh_163 [] [] [] 60 0 [(0, some (.inl (.ref 0))), (1, some (.inr ((-2147483648), 2147483647))), (2, some (.inr ((-2147483648), 2147483647))), (3, some (.inl (.ref 93)))] = true := by decide +kernel
set_option maxRecDepth 100000 in
theorem ckhb_163 : mCF pg RRS SHF mtL cts_166 eh_163 [] [] [] 60 0 [(0, some (.inl (.ref 0))), (1, some (.inr ((-2147483648), 2147483647))), (2, some (.inr ((-2147483648), 2147483647))), (3, some (.inl (.ref 93)))] = true := by decide +kernel
theorem lh_163 {l : aL} (hl0 : l.1.stackTraces = false) {M : aM} {u : Nat → Nat} {s : Nat} {H : HS} (h : LJ u s H M) {x1 x2 : Int32} : ∀ hh, iT (pI pg 163) = tableOf hh → ACH l (pI pg 163) hh (gcI (fun _ M' => LJ u s H M')) 2 12 [.ref 0, .int x1, .int x2, .ref 93] SHF M := by
  obtain ⟨hT, hI, hC, hm, hf⟩ := h
  rcases hC with ⟨hJ, hH⟩ | ⟨hJ, hH⟩
  · exact help_of (e := eh_163) (Q := LJ u s H) hl0 (all_RR hl0) ckha_163 rfl rfl (by decide +kernel) (by decide +kernel) rfl (List.forall_mem_cons.mpr ⟨⟨_, rfl, rfl⟩, List.forall_mem_cons.mpr ⟨⟨_, rfl, x1, rfl, in_full x1⟩, List.forall_mem_cons.mpr ⟨⟨_, rfl, x2, rfl, in_full x2⟩, List.forall_mem_cons.mpr ⟨⟨_, rfl, rfl⟩, fun _ h => absurd h List.not_mem_nil⟩⟩⟩⟩) hJ (fun _ h => absurd h List.not_mem_nil) (fun M' hj => LJ_by hT hI hH hm hf (fun a b => Or.inl ⟨a, b⟩) hj (by decide +kernel))
  · exact help_of (e := eh_163) (Q := LJ u s H) hl0 (all_RRS hl0) ckhb_163 rfl rfl (by decide +kernel) (by decide +kernel) rfl (List.forall_mem_cons.mpr ⟨⟨_, rfl, rfl⟩, List.forall_mem_cons.mpr ⟨⟨_, rfl, x1, rfl, in_full x1⟩, List.forall_mem_cons.mpr ⟨⟨_, rfl, x2, rfl, in_full x2⟩, List.forall_mem_cons.mpr ⟨⟨_, rfl, rfl⟩, fun _ h => absurd h List.not_mem_nil⟩⟩⟩⟩) hJ (fun _ h => absurd h List.not_mem_nil) (fun M' hj => LJ_by hT hI hH hm hf (fun a b => Or.inr ⟨a, b⟩) hj (by decide +kernel))
theorem lm_244 {l : aL} (hl0 : l.1.stackTraces = false) {M : aM} {u : Nat → Nat} {s : Nat} {H : HS} (h : LJ u s H M) {x1 x2 : Int32} : AC l (pI pg 244) (gcI (fun _ M' => LJ u s H M')) 0 0 [.ref 58, .int x1, .int x2] SHF M := by
  obtain ⟨hT, hI, hC, hm, hf⟩ := h
  rcases hC with ⟨hJ, hH⟩ | ⟨hJ, hH⟩
  · exact gcI_of (e := en_128) (Q := LJ u s H) hl0 (ok_128 hl0 (ctA_RR hl0) _ List.mem_cons_self) rfl rfl ⟨rfl, ⟨x1, rfl, in_full x1⟩, ⟨x2, rfl, in_full x2⟩, trivial⟩ hJ (fun _ h => absurd h List.not_mem_nil) (fun M' hj => LJ_by hT hI hH hm hf (fun a b => Or.inl ⟨a, b⟩) hj (by decide +kernel))
  · exact gcI_of (e := ens_128) (Q := LJ u s H) hl0 (oks_128 hl0 (ctA_RRS hl0) _ List.mem_cons_self) rfl rfl ⟨rfl, ⟨x1, rfl, in_full x1⟩, ⟨x2, rfl, in_full x2⟩, trivial⟩ hJ (fun _ h => absurd h List.not_mem_nil) (fun M' hj => LJ_by hT hI hH hm hf (fun a b => Or.inr ⟨a, b⟩) hj (by decide +kernel))
def eh_168 : cE := (168, [some (.inl (.ref 0)), some (.inr ((-2147483648), 2147483647)), some (.inl (.ref 93))], [], ([], []), [(some (some (.inr (0, 2))), [])], [], 2, 12)
set_option maxRecDepth 100000 in
theorem ckha_168 : mCF pg RR SHF mtL ct_166 eh_168 [] [] [] 60 0 [(0, some (.inl (.ref 0))), (1, some (.inr ((-2147483648), 2147483647))), (2, some (.inl (.ref 93)))] = true := by decide +kernel
set_option maxRecDepth 100000 in
theorem ckhb_168 : mCF pg RRS SHF mtL cts_166 eh_168 [] [] [] 60 0 [(0, some (.inl (.ref 0))), (1, some (.inr ((-2147483648), 2147483647))), (2, some (.inl (.ref 93)))] = true := by decide +kernel
theorem lh_168 {l : aL} (hl0 : l.1.stackTraces = false) {M : aM} {u : Nat → Nat} {s : Nat} {H : HS} (h : LJ u s H M) {x1 : Int32} : ∀ hh, iT (pI pg 168) = tableOf hh → ACH l (pI pg 168) hh (gcI (fun _ M' => LJ u s H M')) 2 12 [.ref 0, .int x1, .ref 93] SHF M := by
  obtain ⟨hT, hI, hC, hm, hf⟩ := h
  rcases hC with ⟨hJ, hH⟩ | ⟨hJ, hH⟩
  · exact help_of (e := eh_168) (Q := LJ u s H) hl0 (all_RR hl0) ckha_168 rfl rfl (by decide +kernel) (by decide +kernel) rfl (List.forall_mem_cons.mpr ⟨⟨_, rfl, rfl⟩, List.forall_mem_cons.mpr ⟨⟨_, rfl, x1, rfl, in_full x1⟩, List.forall_mem_cons.mpr ⟨⟨_, rfl, rfl⟩, fun _ h => absurd h List.not_mem_nil⟩⟩⟩) hJ (fun _ h => absurd h List.not_mem_nil) (fun M' hj => LJ_by hT hI hH hm hf (fun a b => Or.inl ⟨a, b⟩) hj (by decide +kernel))
  · exact help_of (e := eh_168) (Q := LJ u s H) hl0 (all_RRS hl0) ckhb_168 rfl rfl (by decide +kernel) (by decide +kernel) rfl (List.forall_mem_cons.mpr ⟨⟨_, rfl, rfl⟩, List.forall_mem_cons.mpr ⟨⟨_, rfl, x1, rfl, in_full x1⟩, List.forall_mem_cons.mpr ⟨⟨_, rfl, rfl⟩, fun _ h => absurd h List.not_mem_nil⟩⟩⟩) hJ (fun _ h => absurd h List.not_mem_nil) (fun M' hj => LJ_by hT hI hH hm hf (fun a b => Or.inr ⟨a, b⟩) hj (by decide +kernel))
theorem lm_245 {l : aL} (hl0 : l.1.stackTraces = false) {M : aM} {u : Nat → Nat} {s : Nat} {H : HS} (h : LJ u s H M) {x1 : Int32} : AC l (pI pg 245) (gcI (fun _ M' => LJ u s H M')) 0 0 [.ref 58, .int x1] SHF M := by
  obtain ⟨hT, hI, hC, hm, hf⟩ := h
  rcases hC with ⟨hJ, hH⟩ | ⟨hJ, hH⟩
  · exact gcI_of (e := en_129) (Q := LJ u s H) hl0 (ok_129 hl0 (ctA_RR hl0) _ List.mem_cons_self) rfl rfl ⟨rfl, ⟨x1, rfl, in_full x1⟩, trivial⟩ hJ (fun _ h => absurd h List.not_mem_nil) (fun M' hj => LJ_by hT hI hH hm hf (fun a b => Or.inl ⟨a, b⟩) hj (by decide +kernel))
  · exact gcI_of (e := ens_129) (Q := LJ u s H) hl0 (oks_129 hl0 (ctA_RRS hl0) _ List.mem_cons_self) rfl rfl ⟨rfl, ⟨x1, rfl, in_full x1⟩, trivial⟩ hJ (fun _ h => absurd h List.not_mem_nil) (fun M' hj => LJ_by hT hI hH hm hf (fun a b => Or.inr ⟨a, b⟩) hj (by decide +kernel))
theorem lm_35 {l : aL} (hl0 : l.1.stackTraces = false) {M : aM} {u : Nat → Nat} {s : Nat} {H : HS} (h : LJ u s H M)  : AC l (pI pg 35) (gcI (fun _ M' => LJ u s H M')) 2 12 [.ref 0] SHF M := by
  obtain ⟨hT, hI, hC, hm, hf⟩ := h
  rcases hC with ⟨hJ, hH⟩ | ⟨hJ, hH⟩
  · exact gcI_of (e := en_57) (Q := LJ u s H) hl0 (ok_57 hl0 (ctA_RR hl0) _ List.mem_cons_self) rfl rfl ⟨rfl, trivial⟩ hJ (fun _ h => absurd h List.not_mem_nil) (fun M' hj => LJ_by hT hI hH hm hf (fun a b => Or.inl ⟨a, b⟩) hj (by decide +kernel))
  · exact gcI_of (e := ens_57) (Q := LJ u s H) hl0 (oks_57 hl0 (ctA_RRS hl0) _ List.mem_cons_self) rfl rfl ⟨rfl, trivial⟩ hJ (fun _ h => absurd h List.not_mem_nil) (fun M' hj => LJ_by hT hI hH hm hf (fun a b => Or.inr ⟨a, b⟩) hj (by decide +kernel))
theorem lm_246 {l : aL} (hl0 : l.1.stackTraces = false) {M : aM} {u : Nat → Nat} {s : Nat} {H : HS} (h : LJ u s H M)  : AC l (pI pg 246) (gcI (fun _ M' => LJ u s H M')) 0 0 [.ref 58] SHF M := by
  obtain ⟨hT, hI, hC, hm, hf⟩ := h
  rcases hC with ⟨hJ, hH⟩ | ⟨hJ, hH⟩
  · exact gcI_of (e := en_134) (Q := LJ u s H) hl0 (ok_134 hl0 (ctA_RR hl0) _ List.mem_cons_self) rfl rfl ⟨rfl, trivial⟩ hJ (fun _ h => absurd h List.not_mem_nil) (fun M' hj => LJ_by hT hI hH hm hf (fun a b => Or.inl ⟨a, b⟩) hj (by decide +kernel))
  · exact gcI_of (e := ens_134) (Q := LJ u s H) hl0 (oks_134 hl0 (ctA_RRS hl0) _ List.mem_cons_self) rfl rfl ⟨rfl, trivial⟩ hJ (fun _ h => absurd h List.not_mem_nil) (fun M' hj => LJ_by hT hI hH hm hf (fun a b => Or.inr ⟨a, b⟩) hj (by decide +kernel))
theorem lm_37 {l : aL} (hl0 : l.1.stackTraces = false) {M : aM} {u : Nat → Nat} {s : Nat} {H : HS} (h : LJ u s H M)  : AC l (pI pg 37) (gcI (fun _ M' => LJ u s H M')) 2 12 [.ref 0] SHF M := by
  obtain ⟨hT, hI, hC, hm, hf⟩ := h
  rcases hC with ⟨hJ, hH⟩ | ⟨hJ, hH⟩
  · exact gcI_of (e := en_58) (Q := LJ u s H) hl0 (ok_58 hl0 (ctA_RR hl0) _ List.mem_cons_self) rfl rfl ⟨rfl, trivial⟩ hJ (fun _ h => absurd h List.not_mem_nil) (fun M' hj => LJ_by hT hI hH hm hf (fun a b => Or.inl ⟨a, b⟩) hj (by decide +kernel))
  · exact gcI_of (e := ens_58) (Q := LJ u s H) hl0 (oks_58 hl0 (ctA_RRS hl0) _ List.mem_cons_self) rfl rfl ⟨rfl, trivial⟩ hJ (fun _ h => absurd h List.not_mem_nil) (fun M' hj => LJ_by hT hI hH hm hf (fun a b => Or.inr ⟨a, b⟩) hj (by decide +kernel))
theorem lm_247 {l : aL} (hl0 : l.1.stackTraces = false) {M : aM} {u : Nat → Nat} {s : Nat} {H : HS} (h : LJ u s H M)  : AC l (pI pg 247) (gcI (fun _ M' => LJ u s H M')) 0 0 [.ref 58] SHF M := by
  obtain ⟨hT, hI, hC, hm, hf⟩ := h
  rcases hC with ⟨hJ, hH⟩ | ⟨hJ, hH⟩
  · exact gcI_of (e := en_139) (Q := LJ u s H) hl0 (ok_139 hl0 (ctA_RR hl0) _ List.mem_cons_self) rfl rfl ⟨rfl, trivial⟩ hJ (fun _ h => absurd h List.not_mem_nil) (fun M' hj => LJ_by hT hI hH hm hf (fun a b => Or.inl ⟨a, b⟩) hj (by decide +kernel))
  · exact gcI_of (e := ens_139) (Q := LJ u s H) hl0 (oks_139 hl0 (ctA_RRS hl0) _ List.mem_cons_self) rfl rfl ⟨rfl, trivial⟩ hJ (fun _ h => absurd h List.not_mem_nil) (fun M' hj => LJ_by hT hI hH hm hf (fun a b => Or.inr ⟨a, b⟩) hj (by decide +kernel))
/-! the law's loop -/
theorem AW.shf {l : aL} {mi : aI} {P : aP} {kc ks pc : Nat} {lv : List (Nat × Value)} {st : List Value} {s : List aS} {M : aM} (k : AW l mi P kc ks pc lv st (false, s) M) : AW l mi P kc ks pc lv st (true, s) M := by
  intro p e s1 m args below meth c G H locs cells slots ls KC KS C E w hS hl hc hs
  exact k p e s1 m args below meth c G H locs cells slots ls KC KS C E ⟨⟨w.1.1, fun h => by cases h⟩, w.2⟩ hS hl hc hs
theorem fcgI {l : aL} {id : Nat} {M : aM} {Q : Int32 → aM → Prop} {Q' : Int32 → aM → Prop} {kc ks : Nat} {av : List Value} (hl0 : l.1.stackTraces = false) (h : AC l (pI pg id) (fcI M Q) kc ks av SHF M) (hq : ∀ y M', M'.2.2 = M.2.2 → Q y M' → Q' y M') : AC l (pI pg id) (gcI Q') kc ks av SHF M := h.post hl0 (fun r sh' M' hp => by
  obtain ⟨p1, p2, y, p3, p4⟩ := hp
  exact ⟨p1, y, p3, hq y M' p2 p4⟩)
theorem JX_size {M : aM} (h : JX M) : inI (M.1 2 1) (0, 800) := h.elim (fun h => rgF_ok h.1 (show rgF RR.1 2 1 = some (0, 800) by decide +kernel)) (fun h => rgF_ok h.1 (show rgF RRS.1 2 1 = some (0, 800) by decide +kernel))
theorem JX_RC {M : aM} (h : JX M) : ∀ e ∈ RC, M.2.2 e.1 e.2.1 = e.2.2 := fun e he => h.elim (fun h => rgR_ok h.2 ((show ∀ e ∈ RC, rgR RR.2 e.1 e.2.1 = some e.2.2 by decide +kernel) e he)) (fun h => rgR_ok h.2 ((show ∀ e ∈ RC, rgR RRS.2 e.1 e.2.1 = some e.2.2 by decide +kernel) e he))
theorem JX_RM {M : aM} (h : JX M) : ∀ e ∈ RM, M.2.2 e.1 e.2.1 = e.2.2 := fun e he => h.elim (fun h => rgR_ok h.2 (okR_RR.1 e he)) (fun h => rgR_ok h.2 (okR_RRS.1 e he))
theorem JX_of {M M' : aM} {W : sW} (h : JX M) (h22 : M'.2.2 = M.2.2) (hfr : ∀ a k, wrW W a k = false → M'.1 a k = M.1 a k) (hA : ∀ a ∈ W.1, ∃ q, wcA RR.1 a q = true ∧ ∀ k, inI (M'.1 a k) q) (hF : ∀ f ∈ W.2, ∃ q, wcF RR.1 f.1 f.2 q = true ∧ inI (M'.1 f.1 f.2) q) : JX M' := by
  rcases h with h | h
  · have := Jm_of h h22 hfr hA hF
    exact Or.inl ⟨this.1, this.2.1⟩
  · have := Jm_of (R := RRS) h h22 hfr hA hF
    exact Or.inr ⟨this.1, this.2.1⟩
theorem tbI_in (v : Int32) (i : Nat) : inI (tbI v i) (0, 255) := by
  obtain ⟨j, hj, e⟩ := pk_andE (v >>> (shI i &&& 31)) (m := (Int16.ofInt 255).toInt32) 8 (by decide)
  unfold tbI
  rw [e]
  show (0 : Int) ≤ (nI j).toInt ∧ (nI j).toInt ≤ 255
  rw [nI_toInt (by omega)]
  omega

