/-! THE REFERENCE'S HOUSE, with the intervals -/
theorem mH_sme {H : HS} {M1 M : aM} (hI : HI H) (h : smeM M1 M) (hH : mHo H M1) : mHo H M := by
  have hp6 := hI.pe
  have hw8 := hI.wo
  have ht8 := hI.te
  obtain ⟨a1, a2, a3, a4, a5, a6, a7, a8, a9, a10⟩ := hH
  refine ⟨(sme_fI h (i := 58) (ci := 10) (k := 1) rfl rfl (by decide) rfl).symm.trans a1, (sme_fI h (i := 58) (ci := 10) (k := 2) rfl rfl (by decide) rfl).symm.trans a2, (sme_fI h (i := 58) (ci := 10) (k := 3) rfl rfl (by decide) rfl).symm.trans a3, (sme_fI h (i := 58) (ci := 10) (k := 4) rfl rfl (by decide) rfl).symm.trans a4, fun i hi => (sme_aI h (i := 59) (n := 6) (ty := .int) rfl rfl (by omega)).symm.trans (a5 i hi), fun i hi => (sme_aI h (i := 60) (n := 6) (ty := .int) rfl rfl (by omega)).symm.trans (a6 i hi), fun i hi => (sme_aI h (i := 61) (n := 8) (ty := .int) rfl rfl (by omega)).symm.trans (a7 i hi), fun i hi => (sme_aI h (i := 62) (n := 8) (ty := .int) rfl rfl (by omega)).symm.trans (a8 i hi), fun i w hi hw => (sme_aI h (i := 63) (n := 48) (ty := .int) rfl rfl (by omega)).symm.trans (a9 i w hi hw), fun k hk => ?_⟩
  have a := a10 k hk
  exact ⟨(sme_aI h (i := 64) (n := 32) (ty := .int) rfl rfl (by omega)).symm.trans a.1, (sme_aI h (i := 64) (n := 32) (ty := .int) rfl rfl (by omega)).symm.trans a.2.1, (sme_aI h (i := 64) (n := 32) (ty := .int) rfl rfl (by omega)).symm.trans a.2.2.1, (sme_aI h (i := 64) (n := 32) (ty := .int) rfl rfl (by omega)).symm.trans a.2.2.2⟩
theorem mH_eq {H : HS} {M1 M : aM} (h1 : ∀ k, 1 ≤ k → k ≤ 4 → M.1 58 k = M1.1 58 k) (h2 : ∀ a k, 59 ≤ a → a ≤ 64 → M.1 a k = M1.1 a k) (hH : mHo H M1) : mHo H M := by
  obtain ⟨a1, a2, a3, a4, a5, a6, a7, a8, a9, a10⟩ := hH
  refine ⟨(h1 1 (by decide) (by decide)).trans a1, (h1 2 (by decide) (by decide)).trans a2, (h1 3 (by decide) (by decide)).trans a3, (h1 4 (by decide) (by decide)).trans a4, fun i hi => (h2 59 i (by decide) (by decide)).trans (a5 i hi), fun i hi => (h2 60 i (by decide) (by decide)).trans (a6 i hi), fun i hi => (h2 61 i (by decide) (by decide)).trans (a7 i hi), fun i hi => (h2 62 i (by decide) (by decide)).trans (a8 i hi), fun i w hi hw => (h2 63 _ (by decide) (by decide)).trans (a9 i w hi hw), fun k hk => ?_⟩
  have a := a10 k hk
  exact ⟨(h2 64 _ (by decide) (by decide)).trans a.1, (h2 64 _ (by decide) (by decide)).trans a.2.1, (h2 64 _ (by decide) (by decide)).trans a.2.2.1, (h2 64 _ (by decide) (by decide)).trans a.2.2.2⟩
/-- what the reference's house answers and leaves, the class's house being Hc and its own H0 -/
def QMh (R : Flt ⊕ HS) (Hc H0 : HS) (M : aM) : Int32 → aM → Prop := fun y M' => M'.1 58 0 = 0 ∧ M'.1 58 12 = 0 ∧ M'.2.1 93 0 = M.2.1 93 0 ∧ (∀ a k, a < 58 → M'.1 a k = M.1 a k) ∧ hoC Hc M' ∧ (∀ f, R = .inl f → y = nI f.1 ∧ M'.1 58 14 = nI f.2 ∧ M'.1 66 0 = M.1 66 0 + Int32.ofInt 1 ∧ (∀ k, k ≠ 0 → k < 3 → M'.1 66 k = M.1 66 k) ∧ mHo H0 M') ∧ ∀ H, R = .inr H → y = Int32.ofInt 0 ∧ M'.1 58 14 = Int32.ofInt (-1) ∧ (∀ k, k < 3 → M'.1 66 k = M.1 66 k) ∧ HI H ∧ mHo H M'
theorem mho_a {l : aL} (hl0 : l.1.stackTraces = false) {M : aM} (hJ : JR RR M) {Hc H0 : HS} (hHc : cHo 4 Hc M) (hI0 : HI H0) (hm : mHo H0 M) {u : Nat → Nat} {s n : Nat} (s8 : s ≤ 800) (hn : n ≤ s) (h12 : M.1 58 12 = nI s) (hu : ∀ i, u i < 256) (hb : ∀ i, i < s → M.1 65 i = nI (u i)) : AC l (pI pg 174) (fcI M (QMh (parS u n (n + 1) HS0 0) Hc H0 M)) 0 0 [.ref 58, .int (nI n)] SHF M := by
  have hRM : ∀ e ∈ RM, M.2.2 e.1 e.2.1 = e.2.2 := fun e he => rgR_ok hJ.2 (okR_RR.1 e he)
  have c1 := hom_i (l := l) hl0 hRM s8 hn h12 hu hb
  have c2 := fcI_of (e := en_146) (M := M) (av := [.ref 58, .int (nI n)]) hl0 (ok_146 hl0 (ctA_RR hl0) _ List.mem_cons_self) rfl rfl rfl rfl ⟨rfl, ⟨_, rfl, in_full _⟩, trivial⟩ hJ (fun _ h => absurd h List.not_mem_nil)
  refine AC.post hl0 (fun r sh' M' hp => ?_) (AC.joinI c1 c2)
  obtain ⟨p1, p2, y, p3, ⟨-, qJ⟩, M1, qR, qS⟩ := hp
  have f1 : ∀ {k : Nat}, k < 64 → isIt (tyO 10 k) = true → M'.1 58 k = M1.1 58 k := fun {k} hk ht => (sme_fI qS (i := 58) (ci := 10) (k := k) rfl rfl hk ht).symm
  have f66 : ∀ {k : Nat}, k < 3 → M'.1 66 k = M1.1 66 k := fun {k} hk => (sme_aI qS (i := 66) (n := 3) (ty := .int) rfl rfl hk).symm
  have f58 : ∀ a k, a < 58 → M'.1 a k = M.1 a k := fun a k ha => qJ.2.2.1 a k (wr_p (fun a => Nat.blt a 58) (by decide +kernel) (Nat.ble_eq_true_of_le ha))
  have m1 : ∀ {a k : Nat}, (a = 58 → k ≠ 0) → (aset M 58 0 (.int (Int32.ofInt 0))).1 a k = M.1 a k := fun {a k} hk => by
    rw [set_1]
    by_cases e : a = 58
    · rw [if_pos e, if_neg (hk e)]
    · rw [if_neg e]
  refine ⟨p1, p2, y, p3, ?_, (f1 (by decide) rfl).trans qR.1, ?_, f58, Or.inl ⟨⟨qJ.1, qJ.2.1⟩, cH_eq hHc (fun a k h1 h2 => f58 a k (by omega))⟩, fun f hf => ?_, fun H hH => ?_⟩
  · rw [f1 (by decide) rfl]
    cases hr : parS u n (n + 1) HS0 0 with
    | inl f => exact (qR.2.2.1 f hr).2.2.2.2.2.2 58 0 (by decide) (by decide)
    | inr H => exact (qR.2.2.2 H hr).2.2.2.2.2.2.2.2 58 0 (by decide) (by decide) (by decide)
  · rw [← sme_aJ qS (i := 93) (k := 0) (n := 1) rfl (by decide)]
    exact qR.2.1 93 0 (by decide)
  · obtain ⟨g1, -, -, g2, g3, g4, g5⟩ := qR.2.2.1 f hf
    refine ⟨g1, (f1 (by decide) rfl).trans g2, (f66 (by decide)).trans g3, fun k hk h3 => (f66 h3).trans (g4 k hk), mH_sme hI0 qS (mH_eq (fun k k1 k4 => ?_) (fun a k a1 a2 => ?_) hm)⟩
    · rw [g5 58 k (fun _ => by omega) (by decide)]
      exact m1 (fun _ => by omega)
    · rw [g5 a k (fun e => by omega) (by omega)]
      exact m1 (fun _ => by omega)
  · obtain ⟨g1, g2, g3, g4, -, -, -, -, g5⟩ := qR.2.2.2 H hH
    refine ⟨g1, (f1 (by decide) rfl).trans g2, fun k hk => (f66 hk).trans ?_, g4, mH_sme g4 qS g3⟩
    exact g5 66 k (fun e => absurd e (by decide)) (by decide) (by decide)
theorem mhx_a {l : aL} (hl0 : l.1.stackTraces = false) {M : aM} (hJ : JR RR M) {Hc : HS} (hHc : cHo 4 Hc M) {x : Int32} (hx : x < 0 ∨ M.1 58 12 < x) : AC l (pI pg 174) (fcI M (fun _ M' => M'.1 58 0 = 1 ∧ hoC Hc M' ∧ (∀ a k, (a = 58 → k ≠ 0) → M'.1 a k = M.1 a k))) 0 0 [.ref 58, .int x] SHF M := by
  have hRM : ∀ e ∈ RM, M.2.2 e.1 e.2.1 = e.2.2 := fun e he => rgR_ok hJ.2 (okR_RR.1 e he)
  refine AC.post hl0 (fun r sh' M' hp => ?_) (hom_o (l := l) hl0 hRM hx)
  obtain ⟨p1, p2, y, p3, -, rfl⟩ := hp
  have j1 := J_setF (R := RR) (W := ([], [(58, 0)])) (M0 := M) (a := 58) (k := 0) (q := (0, 2)) (x := Int32.ofInt 0) ⟨hJ.1, hJ.2, fun _ _ _ => rfl, rfl⟩ (by decide +kernel) rfl ⟨by decide, by decide⟩
  have j2 := J_setF (R := RR) (W := ([], [(58, 0)])) (M0 := aset M 58 0 (.int (Int32.ofInt 0))) (a := 58) (k := 0) (q := (0, 2)) (x := Int32.ofInt 1) ⟨j1.1, j1.2.1, fun _ _ _ => rfl, rfl⟩ (by decide +kernel) rfl ⟨by decide, by decide⟩
  have fr : ∀ a k, (a = 58 → k ≠ 0) → (aset (aset M 58 0 (.int (Int32.ofInt 0))) 58 0 (.int (Int32.ofInt 1))).1 a k = M.1 a k := fun a k hk => by
    rw [set_1, set_1]
    by_cases e : a = 58
    · rw [if_pos e, if_neg (hk e), if_pos e, if_neg (hk e)]
    · rw [if_neg e, if_neg e]
  exact ⟨p1, p2, y, p3, rfl, Or.inl ⟨⟨j2.1, j2.2.1⟩, cH_eq hHc (fun a k h1 h2 => fr a k (fun e => by omega))⟩, fr⟩
theorem mho_b {l : aL} (hl0 : l.1.stackTraces = false) {M : aM} (hJ : JR RRS M) {Hc H0 : HS} (hHc : cHo 17 Hc M) (hI0 : HI H0) (hm : mHo H0 M) {u : Nat → Nat} {s n : Nat} (s8 : s ≤ 800) (hn : n ≤ s) (h12 : M.1 58 12 = nI s) (hu : ∀ i, u i < 256) (hb : ∀ i, i < s → M.1 65 i = nI (u i)) : AC l (pI pg 174) (fcI M (QMh (parS u n (n + 1) HS0 0) Hc H0 M)) 0 0 [.ref 58, .int (nI n)] SHF M := by
  have hRM : ∀ e ∈ RM, M.2.2 e.1 e.2.1 = e.2.2 := fun e he => rgR_ok hJ.2 (okR_RRS.1 e he)
  have c1 := hom_i (l := l) hl0 hRM s8 hn h12 hu hb
  have c2 := fcI_of (e := ens_146) (M := M) (av := [.ref 58, .int (nI n)]) hl0 (oks_146 hl0 (ctA_RRS hl0) _ List.mem_cons_self) rfl rfl rfl rfl ⟨rfl, ⟨_, rfl, in_full _⟩, trivial⟩ hJ (fun _ h => absurd h List.not_mem_nil)
  refine AC.post hl0 (fun r sh' M' hp => ?_) (AC.joinI c1 c2)
  obtain ⟨p1, p2, y, p3, ⟨-, qJ⟩, M1, qR, qS⟩ := hp
  have f1 : ∀ {k : Nat}, k < 64 → isIt (tyO 10 k) = true → M'.1 58 k = M1.1 58 k := fun {k} hk ht => (sme_fI qS (i := 58) (ci := 10) (k := k) rfl rfl hk ht).symm
  have f66 : ∀ {k : Nat}, k < 3 → M'.1 66 k = M1.1 66 k := fun {k} hk => (sme_aI qS (i := 66) (n := 3) (ty := .int) rfl rfl hk).symm
  have f58 : ∀ a k, a < 58 → M'.1 a k = M.1 a k := fun a k ha => qJ.2.2.1 a k (wr_p (fun a => Nat.blt a 58) (by decide +kernel) (Nat.ble_eq_true_of_le ha))
  have m1 : ∀ {a k : Nat}, (a = 58 → k ≠ 0) → (aset M 58 0 (.int (Int32.ofInt 0))).1 a k = M.1 a k := fun {a k} hk => by
    rw [set_1]
    by_cases e : a = 58
    · rw [if_pos e, if_neg (hk e)]
    · rw [if_neg e]
  refine ⟨p1, p2, y, p3, ?_, (f1 (by decide) rfl).trans qR.1, ?_, f58, Or.inr ⟨⟨qJ.1, qJ.2.1⟩, cH_eq hHc (fun a k h1 h2 => f58 a k (by omega))⟩, fun f hf => ?_, fun H hH => ?_⟩
  · rw [f1 (by decide) rfl]
    cases hr : parS u n (n + 1) HS0 0 with
    | inl f => exact (qR.2.2.1 f hr).2.2.2.2.2.2 58 0 (by decide) (by decide)
    | inr H => exact (qR.2.2.2 H hr).2.2.2.2.2.2.2.2 58 0 (by decide) (by decide) (by decide)
  · rw [← sme_aJ qS (i := 93) (k := 0) (n := 1) rfl (by decide)]
    exact qR.2.1 93 0 (by decide)
  · obtain ⟨g1, -, -, g2, g3, g4, g5⟩ := qR.2.2.1 f hf
    refine ⟨g1, (f1 (by decide) rfl).trans g2, (f66 (by decide)).trans g3, fun k hk h3 => (f66 h3).trans (g4 k hk), mH_sme hI0 qS (mH_eq (fun k k1 k4 => ?_) (fun a k a1 a2 => ?_) hm)⟩
    · rw [g5 58 k (fun _ => by omega) (by decide)]
      exact m1 (fun _ => by omega)
    · rw [g5 a k (fun e => by omega) (by omega)]
      exact m1 (fun _ => by omega)
  · obtain ⟨g1, g2, g3, g4, -, -, -, -, g5⟩ := qR.2.2.2 H hH
    refine ⟨g1, (f1 (by decide) rfl).trans g2, fun k hk => (f66 hk).trans ?_, g4, mH_sme g4 qS g3⟩
    exact g5 66 k (fun e => absurd e (by decide)) (by decide) (by decide)
theorem mhx_b {l : aL} (hl0 : l.1.stackTraces = false) {M : aM} (hJ : JR RRS M) {Hc : HS} (hHc : cHo 17 Hc M) {x : Int32} (hx : x < 0 ∨ M.1 58 12 < x) : AC l (pI pg 174) (fcI M (fun _ M' => M'.1 58 0 = 1 ∧ hoC Hc M' ∧ (∀ a k, (a = 58 → k ≠ 0) → M'.1 a k = M.1 a k))) 0 0 [.ref 58, .int x] SHF M := by
  have hRM : ∀ e ∈ RM, M.2.2 e.1 e.2.1 = e.2.2 := fun e he => rgR_ok hJ.2 (okR_RRS.1 e he)
  refine AC.post hl0 (fun r sh' M' hp => ?_) (hom_o (l := l) hl0 hRM hx)
  obtain ⟨p1, p2, y, p3, -, rfl⟩ := hp
  have j1 := J_setF (R := RRS) (W := ([], [(58, 0)])) (M0 := M) (a := 58) (k := 0) (q := (0, 2)) (x := Int32.ofInt 0) ⟨hJ.1, hJ.2, fun _ _ _ => rfl, rfl⟩ (by decide +kernel) rfl ⟨by decide, by decide⟩
  have j2 := J_setF (R := RRS) (W := ([], [(58, 0)])) (M0 := aset M 58 0 (.int (Int32.ofInt 0))) (a := 58) (k := 0) (q := (0, 2)) (x := Int32.ofInt 1) ⟨j1.1, j1.2.1, fun _ _ _ => rfl, rfl⟩ (by decide +kernel) rfl ⟨by decide, by decide⟩
  have fr : ∀ a k, (a = 58 → k ≠ 0) → (aset (aset M 58 0 (.int (Int32.ofInt 0))) 58 0 (.int (Int32.ofInt 1))).1 a k = M.1 a k := fun a k hk => by
    rw [set_1, set_1]
    by_cases e : a = 58
    · rw [if_pos e, if_neg (hk e), if_pos e, if_neg (hk e)]
    · rw [if_neg e, if_neg e]
  exact ⟨p1, p2, y, p3, rfl, Or.inr ⟨⟨j2.1, j2.2.1⟩, cH_eq hHc (fun a k h1 h2 => fr a k (fun e => by omega))⟩, fr⟩
theorem mho_c {l : aL} (hl0 : l.1.stackTraces = false) {M : aM} {Hc H0 : HS} (h : hoC Hc M) (hI0 : HI H0) (hm : mHo H0 M) {u : Nat → Nat} {s n : Nat} (s8 : s ≤ 800) (hn : n ≤ s) (h12 : M.1 58 12 = nI s) (hu : ∀ i, u i < 256) (hb : ∀ i, i < s → M.1 65 i = nI (u i)) : AC l (pI pg 174) (fcI M (QMh (parS u n (n + 1) HS0 0) Hc H0 M)) 0 0 [.ref 58, .int (nI n)] SHF M := h.elim (fun h => mho_a hl0 h.1 h.2 hI0 hm s8 hn h12 hu hb) (fun h => mho_b hl0 h.1 h.2 hI0 hm s8 hn h12 hu hb)
theorem mhx_c {l : aL} (hl0 : l.1.stackTraces = false) {M : aM} {Hc : HS} (h : hoC Hc M) {x : Int32} (hx : x < 0 ∨ M.1 58 12 < x) : AC l (pI pg 174) (fcI M (fun _ M' => M'.1 58 0 = 1 ∧ hoC Hc M' ∧ (∀ a k, (a = 58 → k ≠ 0) → M'.1 a k = M.1 a k))) 0 0 [.ref 58, .int x] SHF M := h.elim (fun h => mhx_a hl0 h.1 h.2 hx) (fun h => mhx_b hl0 h.1 h.2 hx)
/-! WHAT THE LAW KEEPS: one tape, one house, one place of a fault -/
def TP (u : Nat → Nat) (s : Nat) (M : aM) : Prop := s ≤ 800 ∧ M.1 2 1 = nI s ∧ M.1 58 12 = nI s ∧ (∀ i, u i < 256) ∧ (∀ i, i < s → M.1 3 i = sB (u i)) ∧ ∀ i, i < s → M.1 65 i = nI (u i)
def LJ (u : Nat → Nat) (s : Nat) (H : HS) (M : aM) : Prop := TP u s M ∧ HI H ∧ hoC H M ∧ mHo H M ∧ M.1 0 13 = M.1 58 14
def LI (M : aM) : Prop := ∃ (u : Nat → Nat) (s : Nat) (H : HS), LJ u s H M
theorem LI_J {M : aM} (h : LI M) : JX M := by
  obtain ⟨u, s, H, -, -, h, -⟩ := h
  exact hoC_J h
def kA (d a : Nat) : Bool := Nat.beq a 3 || (Nat.beq a 65 || ((Nat.ble 59 a && Nat.ble a 64) || (Nat.ble d a && Nat.ble a (d + 12))))
def kF : List (Nat × Nat) := [(2, 1), (58, 12), (0, 13), (58, 14), (58, 1), (58, 2), (58, 3), (58, 4)]
def kpW (d : Nat) (W : sW) : Bool := (W.1.all (fun b => !kA d b) && W.2.all (fun b => !kA d b.1)) && kF.all (fun e => !wrW W e.1 e.2)
theorem kp_a {d : Nat} {W : sW} (h : kpW d W = true) {a k : Nat} (ha : kA d a = true) : wrW W a k = false := by
  unfold kpW at h
  rw [Bool.and_eq_true] at h
  exact wr_p (kA d) h.1 ha
theorem kp_f {d : Nat} {W : sW} (h : kpW d W = true) {e : Nat × Nat} (he : e ∈ kF) : wrW W e.1 e.2 = false := by
  unfold kpW at h
  rw [Bool.and_eq_true] at h
  have h1 := List.all_eq_true.mp h.2 e he
  cases hw : wrW W e.1 e.2 with
  | false => rfl
  | true =>
    rw [hw] at h1
    cases h1
theorem kA_h {d a : Nat} (h1 : d ≤ a) (h2 : a ≤ d + 12) : kA d a = true := by
  unfold kA
  simp only [Bool.or_eq_true, Bool.and_eq_true]
  exact Or.inr (Or.inr (Or.inr ⟨Nat.ble_eq_true_of_le h1, Nat.ble_eq_true_of_le h2⟩))
theorem kA_m {d a : Nat} (h1 : 59 ≤ a) (h2 : a ≤ 64) : kA d a = true := by
  unfold kA
  simp only [Bool.or_eq_true, Bool.and_eq_true]
  exact Or.inr (Or.inr (Or.inl ⟨Nat.ble_eq_true_of_le h1, Nat.ble_eq_true_of_le h2⟩))
theorem LJ_by {d : Nat} {R : sR} {W : sW} {u : Nat → Nat} {s : Nat} {H : HS} {M M' : aM} (hT : TP u s M) (hI : HI H) (hH : cHo d H M) (hm : mHo H M) (hf : M.1 0 13 = M.1 58 14) (hC : JR R M' → cHo d H M' → hoC H M') (hJ : Jm R W M M') (hw : kpW d W = true) : LJ u s H M' := by
  have fr : ∀ {a k : Nat}, kA d a = true → M'.1 a k = M.1 a k := fun {a k} ha => hJ.2.2.1 a k (kp_a hw ha)
  have ff : ∀ {e : Nat × Nat}, e ∈ kF → M'.1 e.1 e.2 = M.1 e.1 e.2 := fun {e} he => hJ.2.2.1 e.1 e.2 (kp_f hw he)
  refine ⟨⟨hT.1, (ff (e := (2, 1)) (by decide)).trans hT.2.1, (ff (e := (58, 12)) (by decide)).trans hT.2.2.1, hT.2.2.2.1, fun i hi => (fr (a := 3) rfl).trans (hT.2.2.2.2.1 i hi), fun i hi => (fr (a := 65) rfl).trans (hT.2.2.2.2.2 i hi)⟩, hI, hC ⟨hJ.1, hJ.2.1⟩ (cH_eq hH (fun a k h1 h2 => fr (kA_h h1 h2))), mH_eq (fun k k1 k4 => ?_) (fun a k a1 a2 => fr (kA_m a1 a2)) hm, ?_⟩
  · have hk : k = 1 ∨ k = 2 ∨ k = 3 ∨ k = 4 := by omega
    rcases hk with e | e | e | e
    · subst e
      exact ff (e := (58, 1)) (by decide)
    · subst e
      exact ff (e := (58, 2)) (by decide)
    · subst e
      exact ff (e := (58, 3)) (by decide)
    · subst e
      exact ff (e := (58, 4)) (by decide)
  · rw [show M'.1 0 13 = M.1 0 13 from ff (e := (0, 13)) (by decide), show M'.1 58 14 = M.1 58 14 from ff (e := (58, 14)) (by decide)]
    exact hf
