/-! LINES of the class -/
theorem sB_eq {a b : Nat} (ha : a < 256) (hb : b < 128) : sB a = nI b ↔ a = b := by
  unfold sB
  by_cases e : a < 128
  · rw [if_pos e]
    exact ⟨fun h => nI_injN (by omega) (by omega) h, fun h => by rw [h]⟩
  · rw [if_neg e]
    refine ⟨fun h => ?_, fun h => by omega⟩
    have h1 := (i_nI (by omega)).mp h
    rw [Int32.toInt_ofInt_of_le (by omega) (by omega)] at h1
    omega
theorem isW_iff {n p : Nat} {u : Nat → Nat} {M : aM} (hB : CB n u M) (hp : p ≤ n) (hT : tkAt u n p M) {b : List Int32} {w : List Nat} (hl : b.length = w.length) (hl8 : w.length < 8) (hw : ∀ i, i < w.length → b.getD i 0 = nI (w.getD i 0) ∧ w.getD i 0 < 128) : isW M b ↔ wdAt u n w p = true := by
  have n8 := hB.1
  have h4 : tK u n p ≤ 4 := tkK_le
  have g1 : tS u n p ≤ tEe u n p := tkE_ge
  have g2 : tEe u n p ≤ n := tE_le' hp
  have e1 : M.1 2 3 = nI (tK u n p) := hT.2.1
  have e2 : M.1 2 5 - M.1 2 4 = nI (tEe u n p - tS u n p) := by
    rw [hT.2.2, hT.1]
    exact nI_subN (a := tEe u n p) (b := tS u n p) g1 (by omega)
  have e3 : (M.1 2 4).toInt.toNat = tS u n p := by
    rw [hT.1]
    show (nI (tS u n p)).toInt.toNat = tS u n p
    rw [nI_toInt (by omega)]
    rfl
  unfold isW wdAt
  rw [Bool.and_eq_true, Bool.and_eq_true, decide_eq_true_eq, decide_eq_true_eq, decide_eq_true_eq, e1, e2, e3, hl]
  constructor
  · rintro ⟨h1, h2, h3⟩
    have k1 := nI_injN (by omega) (by decide) h1
    have k2 := nI_injN (by omega) (by omega) h2
    refine ⟨k1, k2, fun i hi => ?_⟩
    have k3 := h3 i hi
    rw [hB.2.2.2 _ (by omega), (hw i hi).1, sB_eq (hB.2.1 _) (hw i hi).2] at k3
    exact k3
  · rintro ⟨h1, h2, h3⟩
    refine ⟨by rw [h1], by rw [h2], fun i hi => ?_⟩
    rw [hB.2.2.2 _ (by omega), (hw i hi).1, sB_eq (hB.2.1 _) (hw i hi).2]
    exact h3 i hi
def QW (b : Bool) (M : aM) : Int32 → aM → Prop := fun y M' => M = M' ∧ y = (if b = true then Int32.ofInt 1 else Int32.ofInt 0)
theorem wd_c {l : aL} (hl0 : l.1.stackTraces = false) {n p : Nat} {u : Nat → Nat} {M : aM} (hJ : ∀ e ∈ RK, M.2.2 e.1 e.2.1 = e.2.2) (hB : CB n u M) (hp : p ≤ n) (hT : tkAt u n p M) {x : Nat × List Int32} {w : List Nat} (hx : x ∈ aTxts) (hl : x.2.length = w.length) (hl8 : w.length < 8) (hw : ∀ i, i < w.length → x.2.getD i 0 = nI (w.getD i 0) ∧ w.getD i 0 < 128) : AC l (pI pg 53) (fcI M (QW (wdAt u n w p) M)) 0 0 [.ref 2, .retAddr x.1] SHF M := by
  have n8 := hB.1
  have g1 : tS u n p ≤ tEe u n p := tkE_ge
  have g2 : tEe u n p ≤ n := tE_le' hp
  have in_ : ∀ {q : Nat}, q ≤ 800 → inI (nI q) (0, 800) := fun {q} h => by
    refine ⟨?_, ?_⟩ <;> rw [nI_toInt (by omega)] <;> omega
  refine AC.post hl0 ?_ (c53 hl0 hx (hJ (2, 0, 4) (by decide)) (by rw [hT.1]; exact in_ (by show tS u n p ≤ 800; omega)) (by rw [hT.2.2]; exact in_ (by show tEe u n p ≤ 800; omega)))
  rintro r sh' M' ⟨h1, h2, y, h3, h4, h5⟩
  refine ⟨h1, h2, y, h3, h4.symm, ?_⟩
  rcases h5 with ⟨h5, h6⟩ | ⟨h5, h6⟩
  · rw [if_pos ((isW_iff hB hp hT hl hl8 hw).mp h6), h5]
    rfl
  · rw [if_neg (fun e => h6 ((isW_iff hB hp hT hl hl8 hw).mpr e)), h5]
    rfl
theorem wdPerson_c {l : aL} (hl0 : l.1.stackTraces = false) {n p : Nat} {u : Nat → Nat} {M : aM} (hJ : ∀ e ∈ RK, M.2.2 e.1 e.2.1 = e.2.2) (hB : CB n u M) (hp : p ≤ n) (hT : tkAt u n p M) : AC l (pI pg 53) (fcI M (QW (wdAt u n wPerson p) M)) 0 0 [.ref 2, .retAddr 2] SHF M := wd_c hl0 hJ hB hp hT (x := (2, [112, 101, 114, 115, 111, 110])) (List.mem_of_getElem? (i := 0) rfl) (by decide) (by decide) (by decide)
theorem wdDrawn_c {l : aL} (hl0 : l.1.stackTraces = false) {n p : Nat} {u : Nat → Nat} {M : aM} (hJ : ∀ e ∈ RK, M.2.2 e.1 e.2.1 = e.2.2) (hB : CB n u M) (hp : p ≤ n) (hT : tkAt u n p M) : AC l (pI pg 53) (fcI M (QW (wdAt u n wDrawn p) M)) 0 0 [.ref 2, .retAddr 3] SHF M := wd_c hl0 hJ hB hp hT (x := (3, [100, 114, 97, 119, 110])) (List.mem_of_getElem? (i := 1) rfl) (by decide) (by decide) (by decide)
theorem wdWork_c {l : aL} (hl0 : l.1.stackTraces = false) {n p : Nat} {u : Nat → Nat} {M : aM} (hJ : ∀ e ∈ RK, M.2.2 e.1 e.2.1 = e.2.2) (hB : CB n u M) (hp : p ≤ n) (hT : tkAt u n p M) : AC l (pI pg 53) (fcI M (QW (wdAt u n wWork p) M)) 0 0 [.ref 2, .retAddr 4] SHF M := wd_c hl0 hJ hB hp hT (x := (4, [119, 111, 114, 107])) (List.mem_of_getElem? (i := 2) rfl) (by decide) (by decide) (by decide)
theorem wdCan_c {l : aL} (hl0 : l.1.stackTraces = false) {n p : Nat} {u : Nat → Nat} {M : aM} (hJ : ∀ e ∈ RK, M.2.2 e.1 e.2.1 = e.2.2) (hB : CB n u M) (hp : p ≤ n) (hT : tkAt u n p M) : AC l (pI pg 53) (fcI M (QW (wdAt u n wCan p) M)) 0 0 [.ref 2, .retAddr 5] SHF M := wd_c hl0 hJ hB hp hT (x := (5, [99, 97, 110])) (List.mem_of_getElem? (i := 3) rfl) (by decide) (by decide) (by decide)
theorem wdLearn_c {l : aL} (hl0 : l.1.stackTraces = false) {n p : Nat} {u : Nat → Nat} {M : aM} (hJ : ∀ e ∈ RK, M.2.2 e.1 e.2.1 = e.2.2) (hB : CB n u M) (hp : p ≤ n) (hT : tkAt u n p M) : AC l (pI pg 53) (fcI M (QW (wdAt u n wLearn p) M)) 0 0 [.ref 2, .retAddr 6] SHF M := wd_c hl0 hJ hB hp hT (x := (6, [108, 101, 97, 114, 110])) (List.mem_of_getElem? (i := 4) rfl) (by decide) (by decide) (by decide)
theorem wdForget_c {l : aL} (hl0 : l.1.stackTraces = false) {n p : Nat} {u : Nat → Nat} {M : aM} (hJ : ∀ e ∈ RK, M.2.2 e.1 e.2.1 = e.2.2) (hB : CB n u M) (hp : p ≤ n) (hT : tkAt u n p M) : AC l (pI pg 53) (fcI M (QW (wdAt u n wForget p) M)) 0 0 [.ref 2, .retAddr 7] SHF M := wd_c hl0 hJ hB hp hT (x := (7, [102, 111, 114, 103, 101, 116])) (List.mem_of_getElem? (i := 5) rfl) (by decide) (by decide) (by decide)
theorem mi24 {x : Nat} (hx : x ≤ 23) : miV ((Int8.ofInt 8).toInt32) (((Int8.ofInt 24).toInt32) - (nI x)) = nI (min 8 (24 - x)) := by
  rw [show (Int8.ofInt 8).toInt32 = nI 8 by decide, show (Int8.ofInt 24).toInt32 = nI 24 by decide, nI_subN (by omega) (by decide), miV]
  by_cases e : 24 - x < 8
  · rw [if_pos (by rw [nI_ltI (by omega) (by decide)]; exact e), Nat.min_eq_right (by omega)]
  · rw [if_neg (by rw [nI_ltI (by omega) (by decide)]; exact e), Nat.min_eq_left (by omega)]
/-- a fault is one of 1 to 5 -/
theorem numS_f {u : Nat → Nat} {n lo hi p : Nat} {f : Flt} (h : numS u n lo hi p = .inl f) : 1 ≤ f.1 ∧ f.1 ≤ 5 := by
  unfold numS at h
  split at h
  · split at h
    · split at h
      · cases h
      · cases h
        exact ⟨Nat.le_of_ble_eq_true rfl, Nat.le_of_ble_eq_true rfl⟩
    · cases h
      exact ⟨Nat.le_of_ble_eq_true rfl, Nat.le_of_ble_eq_true rfl⟩
  · cases h
    exact ⟨Nat.le_of_ble_eq_true rfl, Nat.le_of_ble_eq_true rfl⟩
theorem idS_f {u : Nat → Nat} {n m p : Nat} {f : Flt} (h : idS u n m p = .inl f) : 1 ≤ f.1 ∧ f.1 ≤ 5 := by
  unfold idS at h
  split at h
  · split at h
    · split at h
      · cases h
      · cases h
        exact ⟨Nat.le_of_ble_eq_true rfl, Nat.le_of_ble_eq_true rfl⟩
    · cases h
      exact ⟨Nat.le_of_ble_eq_true rfl, Nat.le_of_ble_eq_true rfl⟩
  · cases h
    exact ⟨Nat.le_of_ble_eq_true rfl, Nat.le_of_ble_eq_true rfl⟩
theorem endS_f {u : Nat → Nat} {n p : Nat} {f : Flt} (h : endS u n p = .inl f) : 1 ≤ f.1 ∧ f.1 ≤ 5 := by
  unfold endS at h
  split at h
  · cases h
  · cases h
    exact ⟨Nat.le_of_ble_eq_true rfl, Nat.le_of_ble_eq_true rfl⟩
theorem bnd_f {α β : Type} {x : Flt ⊕ α} {g : α → Flt ⊕ β} {f : Flt} (h : bnd x g = .inl f) : x = .inl f ∨ ∃ a, x = .inr a ∧ g a = .inl f := by
  cases x with
  | inl e =>
    cases h
    exact Or.inl rfl
  | inr a => exact Or.inr ⟨a, rfl, h⟩
theorem ite_f {α : Type} {c : Prop} [Decidable c] {x : Flt} {y : Flt ⊕ α} {f : Flt} (h : (if c then .inl x else y) = .inl f) : x = f ∨ y = .inl f := by
  split at h
  · cases h
    exact Or.inl rfl
  · exact Or.inr h
theorem bnd_b {α β : Type} {x : Flt ⊕ α} {g : α → Flt ⊕ β} {f : Flt} (h : bnd x g = .inl f) (h1 : ∀ f, x = .inl f → 1 ≤ f.1 ∧ f.1 ≤ 5) (h2 : ∀ a f, g a = .inl f → 1 ≤ f.1 ∧ f.1 ≤ 5) : 1 ≤ f.1 ∧ f.1 ≤ 5 := by
  rcases bnd_f h with h | ⟨a, _, h⟩
  · exact h1 f h
  · exact h2 a f h
theorem ite_b {α : Type} {c : Prop} [Decidable c] {k s : Nat} {y : Flt ⊕ α} {f : Flt} (h : (if c then .inl (k, s) else y) = .inl f) (hk : 1 ≤ k ∧ k ≤ 5) (h2 : ∀ f, y = .inl f → 1 ≤ f.1 ∧ f.1 ≤ 5) : 1 ≤ f.1 ∧ f.1 ≤ 5 := by
  rcases ite_f h with h | h
  · subst h
    exact hk
  · exact h2 f h
theorem fin_b {α β : Type} {x : Flt ⊕ α} {g : α → β} {f : Flt} (h : bnd x (fun a => .inr (g a)) = .inl f) (h1 : ∀ f, x = .inl f → 1 ≤ f.1 ∧ f.1 ≤ 5) : 1 ≤ f.1 ∧ f.1 ≤ 5 := bnd_b h h1 (fun _ _ h => by cases h)
theorem newS_f {u : Nat → Nat} {n i p : Nat} {H : HS} {f : Flt} (h : newS u n H i p = .inl f) : 1 ≤ f.1 ∧ f.1 ≤ 5 := bnd_b h (fun _ h => idS_f h) (fun _ _ h => ite_b h ⟨Nat.le_of_ble_eq_true rfl, Nat.le_of_ble_eq_true rfl⟩ (fun _ h => by cases h))
theorem chS_f {u : Nat → Nat} {n p : Nat} {H : HS} {f : Flt} (h : chS u n H p = .inl f) : 1 ≤ f.1 ∧ f.1 ≤ 5 := bnd_b h (fun _ h => numS_f h) (fun _ _ h => ite_b h ⟨Nat.le_of_ble_eq_true rfl, Nat.le_of_ble_eq_true rfl⟩ (fun _ h => by cases h))
theorem drS_f {u : Nat → Nat} {n p : Nat} {H : HS} {f : Flt} (h : drS u n H p = .inl f) : 1 ≤ f.1 ∧ f.1 ≤ 5 := by
  unfold drS at h
  split at h
  · exact chS_f h
  · cases h
theorem linS_f {u : Nat → Nat} {n p : Nat} {H : HS} {f : Flt} (h : linS u n H p = .inl f) : 1 ≤ f.1 ∧ f.1 ≤ 5 := by
  unfold linS at h
  split at h
  · exact ite_b h ⟨Nat.le_of_ble_eq_true rfl, Nat.le_of_ble_eq_true rfl⟩ (fun _ h => bnd_b h (fun _ h => numS_f h) (fun _ _ h => bnd_b h (fun _ h => drS_f h) (fun _ _ h => fin_b h (fun _ h => endS_f h))))
  · split at h
    · exact ite_b h ⟨Nat.le_of_ble_eq_true rfl, Nat.le_of_ble_eq_true rfl⟩ (fun _ h => bnd_b h (fun _ h => numS_f h) (fun _ _ h => bnd_b h (fun _ h => numS_f h) (fun _ _ h => fin_b h (fun _ h => endS_f h))))
    · split at h
      · exact bnd_b h (fun _ h => idS_f h) (fun _ _ h => bnd_b h (fun _ h => newS_f h) (fun _ _ h => bnd_b h (fun _ h => numS_f h) (fun _ _ h => fin_b h (fun _ h => endS_f h))))
      · split at h
        · exact ite_b h ⟨Nat.le_of_ble_eq_true rfl, Nat.le_of_ble_eq_true rfl⟩ (fun _ h => bnd_b h (fun _ h => idS_f h) (fun _ _ h => bnd_b h (fun _ h => newS_f h) (fun _ _ h => bnd_b h (fun _ h => numS_f h) (fun _ _ h => bnd_b h (fun _ h => numS_f h) (fun _ _ h => fin_b h (fun _ h => endS_f h))))))
        · split at h
          · exact ite_b h ⟨Nat.le_of_ble_eq_true rfl, Nat.le_of_ble_eq_true rfl⟩ (fun _ h => bnd_b h (fun _ h => numS_f h) (fun _ _ h => fin_b h (fun _ h => endS_f h)))
          · cases h
            exact ⟨Nat.le_of_ble_eq_true rfl, Nat.le_of_ble_eq_true rfl⟩
section RLA
variable {l : aL} {M : aM} {n p : Nat} {u : Nat → Nat} {H : HS}
theorem rwoA_e (hl0 : l.1.stackTraces = false) (hJ : ∀ e ∈ RK, M.2.2 e.1 e.2.1 = e.2.2) (hB : CB n u M) (hI : HI H) (hH : cHo 4 H M) {M1 : aM} (hF : tkF M M1) (e1 : M1.2.2 = M.2.2) {q : Nat} (hq : q ≤ n) (h5 : M1.1 2 5 = nI q) {x y : Nat} (hc : H.wo < 8) : AW l (pI pg 74) (fcV M (QL 4 (bnd (endS u n q) fun c => .inr (addW H x y, c)) M)) 0 0 50 [(0, .ref 1), (1, .ref 4), (2, .int (nI x)), (3, .int (nI y))] [] SHF M1 := by
  have hJ1 : ∀ e ∈ RK, M1.2.2 e.1 e.2.1 = e.2.2 := by rw [e1]; exact hJ
  have cc := rle_c hl0 hJ1 (CB_F hB hF) hq h5
  cases hr : endS u n q with
  | inl f =>
    refine rwoA_50 hJ1 hl0 (QE (endS u n q) M1) cc (fun y1 M2 e2 q2 h3 => ?_) (fun _ _ _ => True) (fun y1 M2 e2 q2 h3 => absurd (q2.2.1 f hr).1 h3) (fun y1 M2 e2 q2 h3 => absurd (q2.2.1 f hr).1 h3)
    exact QL_bad rfl (q2.2.1 f hr).2 (rfF_trans (rfF_of hF) q2.1) (e2.trans e1)
  | inr c =>
    refine rwoA_50 hJ1 hl0 (QE (endS u n q) M1) cc (fun y1 M2 e2 q2 h3 => ?_) (fun _ M2 => QHA (addW H x y) M2) (fun y1 M2 e2 q2 h3 => ?_) (fun y1 M2 e2 q2 h3 M3 e3 q3 => ?_)
    · rw [(q2.2.2 c hr).1] at h3
      exact absurd h3 (by decide)
    · exact adwA_c hl0 (by rw [e2, e1]; exact hJ) (cH_R (by decide) (cH_R (by decide) hH (rfF_of hF)) q2.1) hc
    · exact QL_ok (by decide) rfl (tkF_trans hF (q2.2.2 c hr).2.2) q3.2 q3.1 (q2.2.2 c hr).2.1 (e2.trans e1) e3
theorem rwoA_m1 (hl0 : l.1.stackTraces = false) (hJ : ∀ e ∈ RK, M.2.2 e.1 e.2.1 = e.2.2) (hB : CB n u M) (hI : HI H) (hH : cHo 4 H M) {M1 : aM} (hF : tkF M M1) (e1 : M1.2.2 = M.2.2) {q : Nat} (hq : q ≤ n) (h5 : M1.1 2 5 = nI q) {x : Nat} (hc : H.wo < 8) (hx : x ≤ 23) : AW l (pI pg 74) (fcV M (QL 4 (bnd (numS u n 1 (min 8 (24 - x)) q) fun b => bnd (endS u n b.2) fun c => .inr (addW H x b.1, c)) M)) 0 0 30 [(0, .ref 1), (1, .ref 4), (2, .int (nI x))] [] SHF M1 := by
  have hJ1 : ∀ e ∈ RK, M1.2.2 e.1 e.2.1 = e.2.2 := by rw [e1]; exact hJ
  have hB1 := CB_F hB hF
  have hH1 : cHo 4 H M1 := cH_R (by decide) hH (rfF_of hF)
  have hp6 := hI.pe
  have hw8 := hI.wo
  have cc := num_c hl0 hJ1 hB1 hq h5 (lo := 1) (hi := min 8 (24 - x)) (by decide) (by omega) (x := Int32.ofInt 1) (y := miV ((Int8.ofInt 8).toInt32) (((Int8.ofInt 24).toInt32) - (nI x))) (by decide) (mi24 hx)
  cases hr : numS u n 1 (min 8 (24 - x)) q with
  | inl f => exact rwoA_30 hJ1 hl0 _ cc (fun y1 M2 e2 q2 h3 => QL_bad rfl (q2.2.1 f hr).2 (rfF_trans (rfF_of hF) q2.1) (e2.trans e1)) (fun y1 M2 e2 q2 h3 => absurd (q2.2.1 f hr).1 h3)
  | inr a =>
    have ha := numS_ok hr
    have ha2 : a.2 ≤ n := by rw [ha.2.2]; exact tE_le' hq
    refine rwoA_30 hJ1 hl0 _ cc (fun y1 M2 e2 q2 h3 => absurd ((q2.2.2 a hr).1.symm.trans h3) (nI_nm1 (by omega))) (fun y1 M2 e2 q2 h3 => ?_)
    obtain ⟨rfl, g5, g4, gF⟩ := q2.2.2 a hr
    exact rwoA_e hl0 hJ hB hI hH (tkF_trans hF gF) (e2.trans e1) ha2 g5 hc
theorem rcaA_e (hl0 : l.1.stackTraces = false) (hJ : ∀ e ∈ RK, M.2.2 e.1 e.2.1 = e.2.2) (hB : CB n u M) (hI : HI H) (hH : cHo 4 H M) {M1 : aM} (hF : tkF M M1) (e1 : M1.2.2 = M.2.2) {q : Nat} (hq : q ≤ n) (h5 : M1.1 2 5 = nI q) {i w v : Nat} (hi : i < H.pe) (hw : w < H.wo) : AW l (pI pg 78) (fcV M (QL 4 (bnd (endS u n q) fun c => .inr (addS H i w v, c)) M)) 0 0 40 [(0, .ref 1), (1, .ref 4), (2, .int (nI i)), (3, .int (nI w)), (4, .int (nI v))] [] SHF M1 := by
  have hJ1 : ∀ e ∈ RK, M1.2.2 e.1 e.2.1 = e.2.2 := by rw [e1]; exact hJ
  have cc := rle_c hl0 hJ1 (CB_F hB hF) hq h5
  cases hr : endS u n q with
  | inl f =>
    refine rcaA_40 hJ1 hl0 (QE (endS u n q) M1) cc (fun y1 M2 e2 q2 h3 => ?_) (fun _ _ _ => True) (fun y1 M2 e2 q2 h3 => absurd (q2.2.1 f hr).1 h3) (fun y1 M2 e2 q2 h3 => absurd (q2.2.1 f hr).1 h3)
    exact QL_bad rfl (q2.2.1 f hr).2 (rfF_trans (rfF_of hF) q2.1) (e2.trans e1)
  | inr c =>
    refine rcaA_40 hJ1 hl0 (QE (endS u n q) M1) cc (fun y1 M2 e2 q2 h3 => ?_) (fun _ M2 => QHA (addS H i w v) M2) (fun y1 M2 e2 q2 h3 => ?_) (fun y1 M2 e2 q2 h3 M3 e3 q3 => ?_)
    · rw [(q2.2.2 c hr).1] at h3
      exact absurd h3 (by decide)
    · exact adsA_c hl0 (by rw [e2, e1]; exact hJ) hI (cH_R (by decide) (cH_R (by decide) hH (rfF_of hF)) q2.1) hi hw
    · exact QL_ok (by decide) rfl (tkF_trans hF (q2.2.2 c hr).2.2) q3.2 q3.1 (q2.2.2 c hr).2.1 (e2.trans e1) e3
theorem rcaA_m2 (hl0 : l.1.stackTraces = false) (hJ : ∀ e ∈ RK, M.2.2 e.1 e.2.1 = e.2.2) (hB : CB n u M) (hI : HI H) (hH : cHo 4 H M) {M1 : aM} (hF : tkF M M1) (e1 : M1.2.2 = M.2.2) {q : Nat} (hq : q ≤ n) (h5 : M1.1 2 5 = nI q) {i w : Nat} (hi : i < H.pe) (hw : w < H.wo) : AW l (pI pg 78) (fcV M (QL 4 (bnd (numS u n 1 9 q) fun c => bnd (endS u n c.2) fun d => .inr (addS H i w c.1, d)) M)) 0 0 25 [(0, .ref 1), (1, .ref 4), (2, .int (nI i)), (3, .int (nI w))] [] SHF M1 := by
  have hJ1 : ∀ e ∈ RK, M1.2.2 e.1 e.2.1 = e.2.2 := by rw [e1]; exact hJ
  have hB1 := CB_F hB hF
  have hH1 : cHo 4 H M1 := cH_R (by decide) hH (rfF_of hF)
  have hp6 := hI.pe
  have hw8 := hI.wo
  have cc := num_c hl0 hJ1 hB1 hq h5 (lo := 1) (hi := 9) (by omega) (by omega) (x := Int32.ofInt 1) (y := (Int8.ofInt 9).toInt32) (by decide) (by decide)
  cases hr : numS u n 1 9 q with
  | inl f => exact rcaA_25 hJ1 hl0 _ cc (fun y1 M2 e2 q2 h3 => QL_bad rfl (q2.2.1 f hr).2 (rfF_trans (rfF_of hF) q2.1) (e2.trans e1)) (fun y1 M2 e2 q2 h3 => absurd (q2.2.1 f hr).1 h3)
  | inr a =>
    have ha := numS_ok hr
    have ha2 : a.2 ≤ n := by rw [ha.2.2]; exact tE_le' hq
    refine rcaA_25 hJ1 hl0 _ cc (fun y1 M2 e2 q2 h3 => absurd ((q2.2.2 a hr).1.symm.trans h3) (nI_nm1 (by omega))) (fun y1 M2 e2 q2 h3 => ?_)
    obtain ⟨rfl, g5, g4, gF⟩ := q2.2.2 a hr
    exact rcaA_e hl0 hJ hB hI hH (tkF_trans hF gF) (e2.trans e1) ha2 g5 hi hw
theorem rcaA_m1 (hl0 : l.1.stackTraces = false) (hJ : ∀ e ∈ RK, M.2.2 e.1 e.2.1 = e.2.2) (hB : CB n u M) (hI : HI H) (hH : cHo 4 H M) {M1 : aM} (hF : tkF M M1) (e1 : M1.2.2 = M.2.2) {q : Nat} (hq : q ≤ n) (h5 : M1.1 2 5 = nI q) {i : Nat} (hi : i < H.pe) : AW l (pI pg 78) (fcV M (QL 4 (bnd (newS u n H i q) fun b => bnd (numS u n 1 9 b.2) fun c => bnd (endS u n c.2) fun d => .inr (addS H i b.1 c.1, d)) M)) 0 0 12 [(0, .ref 1), (1, .ref 4), (2, .int (nI i))] [] SHF M1 := by
  have hJ1 : ∀ e ∈ RK, M1.2.2 e.1 e.2.1 = e.2.2 := by rw [e1]; exact hJ
  have hB1 := CB_F hB hF
  have hH1 : cHo 4 H M1 := cH_R (by decide) hH (rfF_of hF)
  have hp6 := hI.pe
  have hw8 := hI.wo
  have cc := rnwA_c hl0 hJ1 hB1 hq h5 hI hH1 hi
  cases hr : newS u n H i q with
  | inl f => exact rcaA_12 hJ1 hl0 _ cc (fun y1 M2 e2 q2 h3 => absurd (q2.2.1 f hr).1 h3) (fun y1 M2 e2 q2 h3 => QL_bad rfl (q2.2.1 f hr).2 (rfF_trans (rfF_of hF) q2.1) (e2.trans e1))
  | inr a =>
    have ha := newS_ok hr
    have ha2 : a.2 ≤ n := by rw [ha.2.1]; exact tE_le' hq
    refine rcaA_12 hJ1 hl0 _ cc (fun y1 M2 e2 q2 h3 => ?_) (fun y1 M2 e2 q2 h3 => absurd ((q2.2.2 a hr).1.symm.trans h3) (nI_nm1 (by omega)))
    obtain ⟨rfl, g5, g4, gF⟩ := q2.2.2 a hr
    exact rcaA_m2 hl0 hJ hB hI hH (tkF_trans hF gF) (e2.trans e1) ha2 g5 hi ha.1
theorem rcaA_m0 (hl0 : l.1.stackTraces = false) (hJ : ∀ e ∈ RK, M.2.2 e.1 e.2.1 = e.2.2) (hB : CB n u M) (hI : HI H) (hH : cHo 4 H M) {M1 : aM} (hF : tkF M M1) (e1 : M1.2.2 = M.2.2) {q : Nat} (hq : q ≤ n) (h5 : M1.1 2 5 = nI q)  : AW l (pI pg 78) (fcV M (QL 4 (bnd (idS u n H.pe q) fun a => bnd (newS u n H a.1 a.2) fun b => bnd (numS u n 1 9 b.2) fun c => bnd (endS u n c.2) fun d => .inr (addS H a.1 b.1 c.1, d)) M)) 0 0 0 [(0, .ref 1), (1, .ref 4)] [] SHF M1 := by
  have hJ1 : ∀ e ∈ RK, M1.2.2 e.1 e.2.1 = e.2.2 := by rw [e1]; exact hJ
  have hB1 := CB_F hB hF
  have hH1 : cHo 4 H M1 := cH_R (by decide) hH (rfF_of hF)
  have hp6 := hI.pe
  have hw8 := hI.wo
  have cc := rpnA_c hl0 hJ1 hB1 hq h5 hI hH1
  cases hr : idS u n H.pe q with
  | inl f => exact rcaA_0 hJ1 hl0 _ cc (fun y1 M2 e2 q2 h3 => absurd (q2.2.1 f hr).1 h3) (fun y1 M2 e2 q2 h3 => QL_bad rfl (q2.2.1 f hr).2 (rfF_trans (rfF_of hF) q2.1) (e2.trans e1))
  | inr a =>
    have ha := idS_ok hr
    have ha2 : a.2 ≤ n := by rw [ha.2]; exact tE_le' hq
    refine rcaA_0 hJ1 hl0 _ cc (fun y1 M2 e2 q2 h3 => ?_) (fun y1 M2 e2 q2 h3 => absurd ((q2.2.2 a hr).1.symm.trans h3) (nI_nm1 (by omega)))
    obtain ⟨rfl, g5, g4, gF⟩ := q2.2.2 a hr
    exact rcaA_m1 hl0 hJ hB hI hH (tkF_trans hF gF) (e2.trans e1) ha2 g5 ha.1
theorem rlrA_e (hl0 : l.1.stackTraces = false) (hJ : ∀ e ∈ RK, M.2.2 e.1 e.2.1 = e.2.2) (hB : CB n u M) (hI : HI H) (hH : cHo 4 H M) {M1 : aM} (hF : tkF M M1) (e1 : M1.2.2 = M.2.2) {q : Nat} (hq : q ≤ n) (h5 : M1.1 2 5 = nI q) {i w v y : Nat} (hc : H.te < 8) (hi : i < H.pe) (hw : w < H.wo) : AW l (pI pg 82) (fcV M (QL 4 (bnd (endS u n q) fun c => .inr (addL H i w v y, c)) M)) 0 0 72 [(0, .ref 1), (1, .ref 4), (2, .int (nI i)), (3, .int (nI w)), (4, .int (nI v)), (5, .int (nI y))] [] SHF M1 := by
  have hJ1 : ∀ e ∈ RK, M1.2.2 e.1 e.2.1 = e.2.2 := by rw [e1]; exact hJ
  have cc := rle_c hl0 hJ1 (CB_F hB hF) hq h5
  cases hr : endS u n q with
  | inl f =>
    refine rlrA_72 hJ1 hl0 (QE (endS u n q) M1) cc (fun y1 M2 e2 q2 h3 => ?_) (fun _ _ _ => True) (fun y1 M2 e2 q2 h3 => absurd (q2.2.1 f hr).1 h3) (fun y1 M2 e2 q2 h3 => absurd (q2.2.1 f hr).1 h3)
    exact QL_bad rfl (q2.2.1 f hr).2 (rfF_trans (rfF_of hF) q2.1) (e2.trans e1)
  | inr c =>
    refine rlrA_72 hJ1 hl0 (QE (endS u n q) M1) cc (fun y1 M2 e2 q2 h3 => ?_) (fun _ M2 => QHA (addL H i w v y) M2) (fun y1 M2 e2 q2 h3 => ?_) (fun y1 M2 e2 q2 h3 M3 e3 q3 => ?_)
    · rw [(q2.2.2 c hr).1] at h3
      exact absurd h3 (by decide)
    · exact adtA_c hl0 (by rw [e2, e1]; exact hJ) hI (cH_R (by decide) (cH_R (by decide) hH (rfF_of hF)) q2.1) hc hi hw
    · exact QL_ok (by decide) rfl (tkF_trans hF (q2.2.2 c hr).2.2) q3.2 q3.1 (q2.2.2 c hr).2.1 (e2.trans e1) e3
theorem rlrA_m3 (hl0 : l.1.stackTraces = false) (hJ : ∀ e ∈ RK, M.2.2 e.1 e.2.1 = e.2.2) (hB : CB n u M) (hI : HI H) (hH : cHo 4 H M) {M1 : aM} (hF : tkF M M1) (e1 : M1.2.2 = M.2.2) {q : Nat} (hq : q ≤ n) (h5 : M1.1 2 5 = nI q) {i w v : Nat} (hc : H.te < 8) (hi : i < H.pe) (hw : w < H.wo) : AW l (pI pg 82) (fcV M (QL 4 (bnd (numS u n 1 99 q) fun d => bnd (endS u n d.2) fun e => .inr (addL H i w v d.1, e)) M)) 0 0 57 [(0, .ref 1), (1, .ref 4), (2, .int (nI i)), (3, .int (nI w)), (4, .int (nI v))] [] SHF M1 := by
  have hJ1 : ∀ e ∈ RK, M1.2.2 e.1 e.2.1 = e.2.2 := by rw [e1]; exact hJ
  have hB1 := CB_F hB hF
  have hH1 : cHo 4 H M1 := cH_R (by decide) hH (rfF_of hF)
  have hp6 := hI.pe
  have hw8 := hI.wo
  have cc := num_c hl0 hJ1 hB1 hq h5 (lo := 1) (hi := 99) (by omega) (by omega) (x := Int32.ofInt 1) (y := (Int8.ofInt 99).toInt32) (by decide) (by decide)
  cases hr : numS u n 1 99 q with
  | inl f => exact rlrA_57 hJ1 hl0 _ cc (fun y1 M2 e2 q2 h3 => QL_bad rfl (q2.2.1 f hr).2 (rfF_trans (rfF_of hF) q2.1) (e2.trans e1)) (fun y1 M2 e2 q2 h3 => absurd (q2.2.1 f hr).1 h3)
  | inr a =>
    have ha := numS_ok hr
    have ha2 : a.2 ≤ n := by rw [ha.2.2]; exact tE_le' hq
    refine rlrA_57 hJ1 hl0 _ cc (fun y1 M2 e2 q2 h3 => absurd ((q2.2.2 a hr).1.symm.trans h3) (nI_nm1 (by omega))) (fun y1 M2 e2 q2 h3 => ?_)
    obtain ⟨rfl, g5, g4, gF⟩ := q2.2.2 a hr
    exact rlrA_e hl0 hJ hB hI hH (tkF_trans hF gF) (e2.trans e1) ha2 g5 hc hi hw
theorem rlrA_m2 (hl0 : l.1.stackTraces = false) (hJ : ∀ e ∈ RK, M.2.2 e.1 e.2.1 = e.2.2) (hB : CB n u M) (hI : HI H) (hH : cHo 4 H M) {M1 : aM} (hF : tkF M M1) (e1 : M1.2.2 = M.2.2) {q : Nat} (hq : q ≤ n) (h5 : M1.1 2 5 = nI q) {i w : Nat} (hc : H.te < 8) (hi : i < H.pe) (hw : w < H.wo) : AW l (pI pg 82) (fcV M (QL 4 (bnd (numS u n 1 9 q) fun c => bnd (numS u n 1 99 c.2) fun d => bnd (endS u n d.2) fun e => .inr (addL H i w c.1 d.1, e)) M)) 0 0 41 [(0, .ref 1), (1, .ref 4), (2, .int (nI i)), (3, .int (nI w))] [] SHF M1 := by
  have hJ1 : ∀ e ∈ RK, M1.2.2 e.1 e.2.1 = e.2.2 := by rw [e1]; exact hJ
  have hB1 := CB_F hB hF
  have hH1 : cHo 4 H M1 := cH_R (by decide) hH (rfF_of hF)
  have hp6 := hI.pe
  have hw8 := hI.wo
  have cc := num_c hl0 hJ1 hB1 hq h5 (lo := 1) (hi := 9) (by omega) (by omega) (x := Int32.ofInt 1) (y := (Int8.ofInt 9).toInt32) (by decide) (by decide)
  cases hr : numS u n 1 9 q with
  | inl f => exact rlrA_41 hJ1 hl0 _ cc (fun y1 M2 e2 q2 h3 => absurd (q2.2.1 f hr).1 h3) (fun y1 M2 e2 q2 h3 => QL_bad rfl (q2.2.1 f hr).2 (rfF_trans (rfF_of hF) q2.1) (e2.trans e1))
  | inr a =>
    have ha := numS_ok hr
    have ha2 : a.2 ≤ n := by rw [ha.2.2]; exact tE_le' hq
    refine rlrA_41 hJ1 hl0 _ cc (fun y1 M2 e2 q2 h3 => ?_) (fun y1 M2 e2 q2 h3 => absurd ((q2.2.2 a hr).1.symm.trans h3) (nI_nm1 (by omega)))
    obtain ⟨rfl, g5, g4, gF⟩ := q2.2.2 a hr
    exact rlrA_m3 hl0 hJ hB hI hH (tkF_trans hF gF) (e2.trans e1) ha2 g5 hc hi hw
theorem rlrA_m1 (hl0 : l.1.stackTraces = false) (hJ : ∀ e ∈ RK, M.2.2 e.1 e.2.1 = e.2.2) (hB : CB n u M) (hI : HI H) (hH : cHo 4 H M) {M1 : aM} (hF : tkF M M1) (e1 : M1.2.2 = M.2.2) {q : Nat} (hq : q ≤ n) (h5 : M1.1 2 5 = nI q) {i : Nat} (hc : H.te < 8) (hi : i < H.pe) : AW l (pI pg 82) (fcV M (QL 4 (bnd (newS u n H i q) fun b => bnd (numS u n 1 9 b.2) fun c => bnd (numS u n 1 99 c.2) fun d => bnd (endS u n d.2) fun e => .inr (addL H i b.1 c.1 d.1, e)) M)) 0 0 28 [(0, .ref 1), (1, .ref 4), (2, .int (nI i))] [] SHF M1 := by
  have hJ1 : ∀ e ∈ RK, M1.2.2 e.1 e.2.1 = e.2.2 := by rw [e1]; exact hJ
  have hB1 := CB_F hB hF
  have hH1 : cHo 4 H M1 := cH_R (by decide) hH (rfF_of hF)
  have hp6 := hI.pe
  have hw8 := hI.wo
  have cc := rnwA_c hl0 hJ1 hB1 hq h5 hI hH1 hi
  cases hr : newS u n H i q with
  | inl f => exact rlrA_28 hJ1 hl0 _ cc (fun y1 M2 e2 q2 h3 => absurd (q2.2.1 f hr).1 h3) (fun y1 M2 e2 q2 h3 => QL_bad rfl (q2.2.1 f hr).2 (rfF_trans (rfF_of hF) q2.1) (e2.trans e1))
  | inr a =>
    have ha := newS_ok hr
    have ha2 : a.2 ≤ n := by rw [ha.2.1]; exact tE_le' hq
    refine rlrA_28 hJ1 hl0 _ cc (fun y1 M2 e2 q2 h3 => ?_) (fun y1 M2 e2 q2 h3 => absurd ((q2.2.2 a hr).1.symm.trans h3) (nI_nm1 (by omega)))
    obtain ⟨rfl, g5, g4, gF⟩ := q2.2.2 a hr
    exact rlrA_m2 hl0 hJ hB hI hH (tkF_trans hF gF) (e2.trans e1) ha2 g5 hc hi ha.1
theorem rwoA_c (hl0 : l.1.stackTraces = false) (hJ : ∀ e ∈ RK, M.2.2 e.1 e.2.1 = e.2.2) (hB : CB n u M) (hp : p ≤ n) (hT : tkAt u n p M) (hI : HI H) (hH : cHo 4 H M) : AC l (pI pg 74) (fcV M (QL 4 (worS u n H p) M)) 0 0 [.ref 1, .ref 4] SHF M := by
  refine fw_of hl0 ⟨by decide +kernel, by decide +kernel, by decide +kernel⟩ rfl ?_
  have hp6 := hI.pe
  have hw8 := hI.wo
  have ht8 := hI.te
  have hq : tEe u n p ≤ n := tE_le' hp
  have h5 : M.1 2 5 = nI (tEe u n p) := hT.2.2
  have lt : M.1 4 1 < (Int8.ofInt 8).toInt32 ↔ H.wo < 8 := by rw [hH.wo, show (Int8.ofInt 8).toInt32 = nI 8 by decide, nI_ltI (by omega) (by decide)]
  by_cases hc : H.wo < 8
  · rw [worS, if_neg (by omega)]
    have cc := num_c hl0 hJ hB hq h5 (lo := 0) (hi := 23) (by decide) (by decide) (x := Int32.ofInt 0) (y := (Int8.ofInt 23).toInt32) (by decide) (by decide)
    have cc2 : M.1 4 1 < (Int8.ofInt 8).toInt32 := lt.mpr hc
    cases hr : numS u n 0 23 (tEe u n p) with
    | inl f => exact rwoA_0 hJ hl0 _ (fun _ => cc) (fun _ y1 M2 e2 q2 h3 => absurd (q2.2.1 f hr).1 h3) (fun _ y1 M2 e2 q2 h3 => QL_bad rfl (q2.2.1 f hr).2 q2.1 e2) (fun h => absurd cc2 h)
    | inr a =>
      have ha := numS_ok hr
      have ha2 : a.2 ≤ n := by rw [ha.2.2]; exact tE_le' hq
      refine rwoA_0 hJ hl0 _ (fun _ => cc) (fun _ y1 M2 e2 q2 h3 => ?_) (fun _ y1 M2 e2 q2 h3 => absurd ((q2.2.2 a hr).1.symm.trans h3) (nI_nm1 (by omega))) (fun h => absurd cc2 h)
      obtain ⟨rfl, g5, g4, gF⟩ := q2.2.2 a hr
      exact rwoA_m1 hl0 hJ hB hI hH gF e2 ha2 g5 hc ha.2.1
  · rw [worS, if_pos (by omega)]
    have cc2 : ¬ M.1 4 1 < (Int8.ofInt 8).toInt32 := fun h => hc (lt.mp h)
    exact rwoA_0 hJ hl0 (fun _ _ => True) (fun h => absurd h cc2) (fun h => absurd h cc2) (fun h => absurd h cc2) (fun _ => QL_ref (u := u) (n := n) (p := p) (k := 2) rfl (by decide) hT.1 rfF_rfl rfl)
theorem rlrA_c (hl0 : l.1.stackTraces = false) (hJ : ∀ e ∈ RK, M.2.2 e.1 e.2.1 = e.2.2) (hB : CB n u M) (hp : p ≤ n) (hT : tkAt u n p M) (hI : HI H) (hH : cHo 4 H M) : AC l (pI pg 82) (fcV M (QL 4 (leaS u n H p) M)) 0 0 [.ref 1, .ref 4] SHF M := by
  refine fw_of hl0 ⟨by decide +kernel, by decide +kernel, by decide +kernel⟩ rfl ?_
  have hp6 := hI.pe
  have hw8 := hI.wo
  have ht8 := hI.te
  have hq : tEe u n p ≤ n := tE_le' hp
  have h5 : M.1 2 5 = nI (tEe u n p) := hT.2.2
  have lt : M.1 4 2 < (Int8.ofInt 8).toInt32 ↔ H.te < 8 := by rw [hH.te, show (Int8.ofInt 8).toInt32 = nI 8 by decide, nI_ltI (by omega) (by decide)]
  by_cases hc : H.te < 8
  · rw [leaS, if_neg (by omega)]
    have cc := rpnA_c hl0 hJ hB hq h5 hI hH
    have cc2 : M.1 4 2 < (Int8.ofInt 8).toInt32 := lt.mpr hc
    cases hr : idS u n H.pe (tEe u n p) with
    | inl f => exact rlrA_0 hJ hl0 _ (fun _ => cc) (fun _ y1 M2 e2 q2 h3 => absurd (q2.2.1 f hr).1 h3) (fun _ y1 M2 e2 q2 h3 => QL_bad rfl (q2.2.1 f hr).2 q2.1 e2) (fun h => absurd cc2 h)
    | inr a =>
      have ha := idS_ok hr
      have ha2 : a.2 ≤ n := by rw [ha.2]; exact tE_le' hq
      refine rlrA_0 hJ hl0 _ (fun _ => cc) (fun _ y1 M2 e2 q2 h3 => ?_) (fun _ y1 M2 e2 q2 h3 => absurd ((q2.2.2 a hr).1.symm.trans h3) (nI_nm1 (by omega))) (fun h => absurd cc2 h)
      obtain ⟨rfl, g5, g4, gF⟩ := q2.2.2 a hr
      exact rlrA_m1 hl0 hJ hB hI hH gF e2 ha2 g5 hc ha.1
  · rw [leaS, if_pos (by omega)]
    have cc2 : ¬ M.1 4 2 < (Int8.ofInt 8).toInt32 := fun h => hc (lt.mp h)
    exact rlrA_0 hJ hl0 (fun _ _ => True) (fun h => absurd h cc2) (fun h => absurd h cc2) (fun h => absurd h cc2) (fun _ => QL_ref (u := u) (n := n) (p := p) (k := 2) rfl (by decide) hT.1 rfF_rfl rfl)
theorem rcaA_c (hl0 : l.1.stackTraces = false) (hJ : ∀ e ∈ RK, M.2.2 e.1 e.2.1 = e.2.2) (hB : CB n u M) (hp : p ≤ n) (hT : tkAt u n p M) (hI : HI H) (hH : cHo 4 H M) : AC l (pI pg 78) (fcV M (QL 4 (canS u n H p) M)) 0 0 [.ref 1, .ref 4] SHF M := by
  refine fw_of hl0 ⟨by decide +kernel, by decide +kernel, by decide +kernel⟩ rfl ?_
  exact rcaA_m0 hl0 hJ hB hI hH tkF_rfl rfl (tE_le' hp) hT.2.2
theorem rfoA_c (hl0 : l.1.stackTraces = false) (hJ : ∀ e ∈ RK, M.2.2 e.1 e.2.1 = e.2.2) (hB : CB n u M) (hp : p ≤ n) (hT : tkAt u n p M) (hI : HI H) (hH : cHo 4 H M) : AC l (pI pg 84) (fcV M (QL 4 (forS u n H p) M)) 0 0 [.ref 1, .ref 4] SHF M := by
  refine fw_of hl0 ⟨by decide +kernel, by decide +kernel, by decide +kernel⟩ rfl ?_
  have hf := hI.fo
  have hq : tEe u n p ≤ n := tE_le' hp
  have h5 : M.1 2 5 = nI (tEe u n p) := hT.2.2
  have z : M.1 4 3 = 0 ↔ H.fo = 0 := by
    rw [hH.fo]
    exact ⟨fun h => nI_injN (b := 0) (by omega) (by decide) h, fun h => by rw [h]; rfl⟩
  by_cases hc : H.fo = 0
  · rw [forS, if_neg (fun h => h hc)]
    have cc := num_c hl0 hJ hB hq h5 (lo := 1) (hi := 50) (by decide) (by decide) (x := Int32.ofInt 1) (y := (Int8.ofInt 50).toInt32) (by decide) (by decide)
    cases hr : numS u n 1 50 (tEe u n p) with
    | inl f => exact rfoA_0 hJ hl0 _ (fun _ => cc) (fun _ y1 M2 e2 q2 h3 => QL_bad rfl (q2.2.1 f hr).2 q2.1 e2) (fun _ y1 M2 e2 q2 h3 => absurd (q2.2.1 f hr).1 h3) (fun h => absurd (z.mpr hc) h)
    | inr a =>
      have ha := numS_ok hr
      have ha2 : a.2 ≤ n := by rw [ha.2.2]; exact tE_le' hq
      refine rfoA_0 hJ hl0 _ (fun _ => cc) (fun _ y1 M2 e2 q2 h3 => absurd ((q2.2.2 a hr).1.symm.trans h3) (nI_nm1 (by omega))) (fun _ y1 M2 e2 q2 h3 => ?_) (fun h => absurd (z.mpr hc) h)
      obtain ⟨rfl, g5, g4, gF⟩ := q2.2.2 a hr
      have hJ1 : ∀ e ∈ RK, M2.2.2 e.1 e.2.1 = e.2.2 := by rw [e2]; exact hJ
      have cc2 := rle_c hl0 hJ1 (CB_F hB gF) ha2 g5
      show AW l (pI pg 84) (fcV M (QL 4 (bnd (endS u n a.2) fun b => .inr (addF H a.1, b)) M)) 0 0 27 _ _ _ _
      cases hs : endS u n a.2 with
      | inl f => exact rfoA_27 hJ1 hl0 _ cc2 (fun y1 M3 e3 q3 h3 => QL_bad rfl (q3.2.1 f hs).2 (rfF_trans (rfF_of gF) q3.1) (e3.trans e2)) (fun y1 M3 e3 q3 h3 => absurd (q3.2.1 f hs).1 h3)
      | inr c =>
        refine rfoA_27 hJ1 hl0 _ cc2 (fun y1 M3 e3 q3 h3 => ?_) (fun y1 M3 e3 q3 h3 => ?_)
        · rw [(q3.2.2 c hs).1] at h3
          exact absurd h3 (by decide)
        · have k := q3.2.2 c hs
          have hH3 : cHo 4 H M3 := cH_R (by decide) (cH_R (by decide) hH (rfF_of gF)) q3.1
          refine QL_ok (M1 := M3) (a := (addF H a.1, c)) (by decide) rfl (tkF_trans gF k.2.2) ⟨fun b j hb => ?_, rfl⟩ (cHo.of (pe := hH3.pe) (wo := hH3.wo) (te := hH3.te) (fo := rfl) (ho := hH3.ho) (ch := hH3.ch) (cd := hH3.cd) (ml := hH3.ml) (be := hH3.be) (le := hH3.le) (dr := hH3.dr) (sk := hH3.sk) (t0 := hH3.t0) (t1 := hH3.t1) (t2 := hH3.t2) (t3 := hH3.t3)) k.2.1 (e3.trans e2) rfl
          rw [set_1, if_neg (by omega)]
  · rw [forS, if_pos hc]
    have cc2 : ¬ M.1 4 3 = 0 := fun h => hc (z.mp h)
    exact rfoA_0 hJ hl0 (fun _ _ => True) (fun h => absurd h cc2) (fun h => absurd h cc2) (fun h => absurd h cc2) (fun _ => QL_ref (u := u) (n := n) (p := p) (k := 5) rfl (by decide) hT.1 rfF_rfl rfl)
theorem rpeA_e (hl0 : l.1.stackTraces = false) (hJ : ∀ e ∈ RK, M.2.2 e.1 e.2.1 = e.2.2) (hI : HI H) (hH : cHo 4 H M) {M1 : aM} (hF : tkF M M1) (e1 : M1.2.2 = M.2.2) {q : Nat} (hT : tkAt u n q M1) {x y : Nat} (hc : H.pe < 6) : AW l (pI pg 65) (fcV M (QL 4 (bnd (endS u n q) fun c => .inr (addP H x y, c)) M)) 0 0 70 [(0, .ref 1), (1, .ref 4), (2, .int (nI x)), (3, .int (nI y))] [] SHF M1 := by
  have hJ1 : ∀ e ∈ RK, M1.2.2 e.1 e.2.1 = e.2.2 := by rw [e1]; exact hJ
  have cc := ile_c hl0 hJ1 hT
  cases hr : endS u n q with
  | inl f =>
    refine rpeA_70 hJ1 hl0 (QE (endS u n q) M1) cc (fun y1 M2 e2 q2 h3 => ?_) (fun _ _ _ => True) (fun y1 M2 e2 q2 h3 => absurd (q2.2.1 f hr).1 h3) (fun y1 M2 e2 q2 h3 => absurd (q2.2.1 f hr).1 h3)
    exact QL_bad rfl (q2.2.1 f hr).2 (rfF_trans (rfF_of hF) q2.1) (e2.trans e1)
  | inr c =>
    refine rpeA_70 hJ1 hl0 (QE (endS u n q) M1) cc (fun y1 M2 e2 q2 h3 => ?_) (fun _ M2 => QHA (addP H x y) M2) (fun y1 M2 e2 q2 h3 => ?_) (fun y1 M2 e2 q2 h3 M3 e3 q3 => ?_)
    · rw [(q2.2.2 c hr).1] at h3
      exact absurd h3 (by decide)
    · exact adpA_c hl0 (by rw [e2, e1]; exact hJ) (cH_R (by decide) (cH_R (by decide) hH (rfF_of hF)) q2.1) hc
    · exact QL_ok (by decide) rfl (tkF_trans hF (q2.2.2 c hr).2.2) q3.2 q3.1 (q2.2.2 c hr).2.1 (e2.trans e1) e3
theorem rpeA_m (hl0 : l.1.stackTraces = false) (hJ : ∀ e ∈ RK, M.2.2 e.1 e.2.1 = e.2.2) (hB : CB n u M) (hI : HI H) (hH : cHo 4 H M) {M1 : aM} (hF : tkF M M1) (e1 : M1.2.2 = M.2.2) {q : Nat} (hq : q ≤ n) (h5 : M1.1 2 5 = nI q) {x : Nat} (hc : H.pe < 6) : AW l (pI pg 65) (fcV M (QL 4 (bnd (drS u n H q) fun b => bnd (endS u n b.2) fun c => .inr (addP H x b.1, c)) M)) 0 0 32 [(0, .ref 1), (1, .ref 4), (2, .int (nI x)), (3, .int (nI 0))] [] SHF M1 := by
  have hJ1 : ∀ e ∈ RK, M1.2.2 e.1 e.2.1 = e.2.2 := by rw [e1]; exact hJ
  have hB1 := CB_F hB hF
  have hH1 : cHo 4 H M1 := cH_R (by decide) hH (rfF_of hF)
  have hch := hI.ch
  have q1e : tEe u n q ≤ n := tE_le' hq
  cases hw : wdAt u n wDrawn q with
  | false =>
    rw [drS, if_neg (by rw [hw]; decide)]
    refine rpeA_32 hJ1 hl0 (QA u n q M1) (adv_c hl0 (rk_rt hJ1 rfl) hB1 hq h5) (fun M2 => QW (wdAt u n wDrawn q) M2) (fun M2 e2 q2 => wdDrawn_c hl0 (by rw [e2]; exact hJ1) (CB_F hB1 q2.2) hq q2.1) (fun M2 e2 q2 y3 M3 e3 q3 h5 => ?_) (fun _ _ _ _ _ => True) (fun M2 e2 q2 y3 M3 e3 q3 h5 => ?_) (fun _ _ _ _ _ _ => True) (fun M2 e2 q2 y3 M3 e3 q3 h5 => ?_) (fun M2 e2 q2 y3 M3 e3 q3 h5 => ?_) (fun M2 e2 q2 y3 M3 e3 q3 h5 => ?_)
    · obtain ⟨rfl, _⟩ := q3
      exact rpeA_e hl0 hJ hI hH (tkF_trans hF q2.2) (e2.trans e1) q2.1 hc
    all_goals exact absurd (q3.2.trans (by rw [hw]; rfl)) h5
  | true =>
    rw [drS, if_pos hw]
    have no : ∀ {y3 : Int32} {M2 M3 : aM}, QW (wdAt u n wDrawn q) M2 y3 M3 → ¬ y3 = 0 := fun {y3 M2 M3} q3 e => by
      rw [q3.2, hw] at e
      exact absurd e (by decide)
    cases hr : chS u n H (tEe u n q) with
    | inl f =>
      refine rpeA_32 hJ1 hl0 (QA u n q M1) (adv_c hl0 (rk_rt hJ1 rfl) hB1 hq h5) (fun M2 => QW (wdAt u n wDrawn q) M2) (fun M2 e2 q2 => wdDrawn_c hl0 (by rw [e2]; exact hJ1) (CB_F hB1 q2.2) hq q2.1) (fun M2 e2 q2 y3 M3 e3 q3 h5 => absurd h5 (no q3)) (fun _ _ M3 => RN (chS u n H (tEe u n q)) (tS u n (tEe u n q)) M3) (fun M2 e2 q2 y3 M3 e3 q3 h5 => ?_) (fun _ _ _ _ _ _ => True) (fun M2 e2 q2 y3 M3 e3 q3 h5 y7 M7 e7 q7 h9 => absurd (q7.2.1 f hr).1 h9) (fun M2 e2 q2 y3 M3 e3 q3 h5 y7 M7 e7 q7 h9 => absurd (q7.2.1 f hr).1 h9) (fun M2 e2 q2 y3 M3 e3 q3 h5 y7 M7 e7 q7 h9 => ?_)
      · obtain ⟨rfl, _⟩ := q3
        exact rchA_c hl0 (by rw [e2]; exact hJ1) (CB_F hB1 q2.2) q1e q2.1.2.2 hI (cH_R (by decide) hH1 (rfF_of q2.2))
      · obtain ⟨rfl, _⟩ := q3
        exact QL_bad rfl (q7.2.1 f hr).2 (rfF_trans (rfF_of (tkF_trans hF q2.2)) q7.1) (e7.trans (e2.trans e1))
    | inr a =>
      have ha := chS_ok hr
      have ha2 : a.2 ≤ n := by rw [ha.2]; exact tE_le' q1e
      refine rpeA_32 hJ1 hl0 (QA u n q M1) (adv_c hl0 (rk_rt hJ1 rfl) hB1 hq h5) (fun M2 => QW (wdAt u n wDrawn q) M2) (fun M2 e2 q2 => wdDrawn_c hl0 (by rw [e2]; exact hJ1) (CB_F hB1 q2.2) hq q2.1) (fun M2 e2 q2 y3 M3 e3 q3 h5 => absurd h5 (no q3)) (fun _ _ M3 => RN (chS u n H (tEe u n q)) (tS u n (tEe u n q)) M3) (fun M2 e2 q2 y3 M3 e3 q3 h5 => ?_) (fun _ _ _ _ M7 => QA u n a.2 M7) (fun M2 e2 q2 y3 M3 e3 q3 h5 y7 M7 e7 q7 h9 => ?_) (fun M2 e2 q2 y3 M3 e3 q3 h5 y7 M7 e7 q7 h9 M10 e10 q10 => ?_) (fun M2 e2 q2 y3 M3 e3 q3 h5 y7 M7 e7 q7 h9 => absurd ((q7.2.2 a hr).1.symm.trans h9) (nI_nm1 (by omega)))
      · obtain ⟨rfl, _⟩ := q3
        exact rchA_c hl0 (by rw [e2]; exact hJ1) (CB_F hB1 q2.2) q1e q2.1.2.2 hI (cH_R (by decide) hH1 (rfF_of q2.2))
      · obtain ⟨rfl, _⟩ := q3
        have g := q7.2.2 a hr
        exact adv_c hl0 (rk_rt hJ1 (e7.trans e2)) (CB_F (CB_F hB1 q2.2) g.2.2.2) ha2 g.2.1
      · obtain ⟨rfl, _⟩ := q3
        obtain ⟨rfl, g5, g4, gF⟩ := q7.2.2 a hr
        exact rpeA_e hl0 hJ hI hH (tkF_trans (tkF_trans (tkF_trans hF q2.2) gF) q10.2) (e10.trans (e7.trans (e2.trans e1))) q10.1 hc
theorem rpeA_c (hl0 : l.1.stackTraces = false) (hJ : ∀ e ∈ RK, M.2.2 e.1 e.2.1 = e.2.2) (hB : CB n u M) (hp : p ≤ n) (hT : tkAt u n p M) (hI : HI H) (hH : cHo 4 H M) : AC l (pI pg 65) (fcV M (QL 4 (perS u n H p) M)) 0 0 [.ref 1, .ref 4] SHF M := by
  refine fw_of hl0 ⟨by decide +kernel, by decide +kernel, by decide +kernel⟩ rfl ?_
  have hp6 := hI.pe
  have hw8 := hI.wo
  have ht8 := hI.te
  have hq : tEe u n p ≤ n := tE_le' hp
  have h5 : M.1 2 5 = nI (tEe u n p) := hT.2.2
  have lt : M.1 4 0 < (Int8.ofInt 6).toInt32 ↔ H.pe < 6 := by rw [hH.pe, show (Int8.ofInt 6).toInt32 = nI 6 by decide, nI_ltI (by omega) (by decide)]
  by_cases hc : H.pe < 6
  · rw [perS, if_neg (by omega)]
    have cc := num_c hl0 hJ hB hq h5 (lo := 0) (hi := 24) (by decide) (by decide) (x := Int32.ofInt 0) (y := (Int8.ofInt 24).toInt32) (by decide) (by decide)
    have cc2 : M.1 4 0 < (Int8.ofInt 6).toInt32 := lt.mpr hc
    cases hr : numS u n 0 24 (tEe u n p) with
    | inl f => exact rpeA_0 hJ hl0 _ (fun _ => cc) (fun _ y1 M2 e2 q2 h3 => absurd (q2.2.1 f hr).1 h3) (fun _ y1 M2 e2 q2 h3 => QL_bad rfl (q2.2.1 f hr).2 q2.1 e2) (fun h => absurd cc2 h)
    | inr a =>
      have ha := numS_ok hr
      have ha2 : a.2 ≤ n := by rw [ha.2.2]; exact tE_le' hq
      refine rpeA_0 hJ hl0 _ (fun _ => cc) (fun _ y1 M2 e2 q2 h3 => ?_) (fun _ y1 M2 e2 q2 h3 => absurd ((q2.2.2 a hr).1.symm.trans h3) (nI_nm1 (by omega))) (fun h => absurd cc2 h)
      obtain ⟨rfl, g5, g4, gF⟩ := q2.2.2 a hr
      exact rpeA_m hl0 hJ hB hI hH gF e2 ha2 g5 hc
  · rw [perS, if_pos (by omega)]
    have cc2 : ¬ M.1 4 0 < (Int8.ofInt 6).toInt32 := fun h => hc (lt.mp h)
    exact rpeA_0 hJ hl0 (fun _ _ => True) (fun h => absurd h cc2) (fun h => absurd h cc2) (fun h => absurd h cc2) (fun _ => QL_ref (u := u) (n := n) (p := p) (k := 2) rfl (by decide) hT.1 rfF_rfl rfl)
theorem rliA_100e (hl0 : l.1.stackTraces = false) (hJ : ∀ e ∈ RK, M.2.2 e.1 e.2.1 = e.2.2) (hB : CB n u M) (hp : p ≤ n) (hT : tkAt u n p M) (hI : HI H) (hH : cHo 4 H M) : AW l (pI pg 52) (fcV M (QL 4 (.inl (1, tS u n p)) M)) 0 0 100 [(0, .ref 1), (1, .ref 4)] [] SHF M := rliA_100 hJ hl0 (QL_ref (u := u) (n := n) (p := p) (k := 1) rfl (by decide) hT.1 rfF_rfl rfl)
theorem rliA_80e (hl0 : l.1.stackTraces = false) (hJ : ∀ e ∈ RK, M.2.2 e.1 e.2.1 = e.2.2) (hB : CB n u M) (hp : p ≤ n) (hT : tkAt u n p M) (hI : HI H) (hH : cHo 4 H M) : AW l (pI pg 52) (fcV M (QL 4 (if wdAt u n wForget p = true then forS u n H p else .inl (1, tS u n p)) M)) 0 0 80 [(0, .ref 1), (1, .ref 4)] [] SHF M := by
  cases hw : wdAt u n wForget p with
  | true =>
    rw [if_pos rfl]
    refine rliA_80 hJ hl0 _ (wdForget_c hl0 hJ hB hp hT) (fun y1 M1 e1 q1 h3 => ?_) (fun _ M1 => QL 4 (forS u n H p) M1) (fun y1 M1 e1 q1 h3 => ?_) (fun y1 M1 e1 q1 h3 M5 e5 q5 => ?_)
    · rw [q1.2, hw] at h3
      exact absurd h3 (by decide)
    · obtain ⟨rfl, _⟩ := q1
      exact rfoA_c hl0 hJ hB hp hT hI hH
    · obtain ⟨rfl, _⟩ := q1
      exact ⟨rfl, e5, rfl, q5⟩
  | false =>
    rw [if_neg (by decide)]
    refine rliA_80 hJ hl0 _ (wdForget_c hl0 hJ hB hp hT) (fun y1 M1 e1 q1 h3 => ?_) (fun _ _ _ => True) (fun y1 M1 e1 q1 h3 => ?_) (fun y1 M1 e1 q1 h3 => ?_)
    · obtain ⟨rfl, _⟩ := q1
      exact rliA_100e hl0 hJ hB hp hT hI hH
    all_goals exact absurd (q1.2.trans (by rw [hw]; rfl)) h3
theorem rliA_60e (hl0 : l.1.stackTraces = false) (hJ : ∀ e ∈ RK, M.2.2 e.1 e.2.1 = e.2.2) (hB : CB n u M) (hp : p ≤ n) (hT : tkAt u n p M) (hI : HI H) (hH : cHo 4 H M) : AW l (pI pg 52) (fcV M (QL 4 (if wdAt u n wLearn p = true then leaS u n H p else if wdAt u n wForget p = true then forS u n H p else .inl (1, tS u n p)) M)) 0 0 60 [(0, .ref 1), (1, .ref 4)] [] SHF M := by
  cases hw : wdAt u n wLearn p with
  | true =>
    rw [if_pos rfl]
    refine rliA_60 hJ hl0 _ (wdLearn_c hl0 hJ hB hp hT) (fun y1 M1 e1 q1 h3 => ?_) (fun _ M1 => QL 4 (leaS u n H p) M1) (fun y1 M1 e1 q1 h3 => ?_) (fun y1 M1 e1 q1 h3 M5 e5 q5 => ?_)
    · rw [q1.2, hw] at h3
      exact absurd h3 (by decide)
    · obtain ⟨rfl, _⟩ := q1
      exact rlrA_c hl0 hJ hB hp hT hI hH
    · obtain ⟨rfl, _⟩ := q1
      exact ⟨rfl, e5, rfl, q5⟩
  | false =>
    rw [if_neg (by decide)]
    refine rliA_60 hJ hl0 _ (wdLearn_c hl0 hJ hB hp hT) (fun y1 M1 e1 q1 h3 => ?_) (fun _ _ _ => True) (fun y1 M1 e1 q1 h3 => ?_) (fun y1 M1 e1 q1 h3 => ?_)
    · obtain ⟨rfl, _⟩ := q1
      exact rliA_80e hl0 hJ hB hp hT hI hH
    all_goals exact absurd (q1.2.trans (by rw [hw]; rfl)) h3
theorem rliA_40e (hl0 : l.1.stackTraces = false) (hJ : ∀ e ∈ RK, M.2.2 e.1 e.2.1 = e.2.2) (hB : CB n u M) (hp : p ≤ n) (hT : tkAt u n p M) (hI : HI H) (hH : cHo 4 H M) : AW l (pI pg 52) (fcV M (QL 4 (if wdAt u n wCan p = true then canS u n H p else if wdAt u n wLearn p = true then leaS u n H p else if wdAt u n wForget p = true then forS u n H p else .inl (1, tS u n p)) M)) 0 0 40 [(0, .ref 1), (1, .ref 4)] [] SHF M := by
  cases hw : wdAt u n wCan p with
  | true =>
    rw [if_pos rfl]
    refine rliA_40 hJ hl0 _ (wdCan_c hl0 hJ hB hp hT) (fun y1 M1 e1 q1 h3 => ?_) (fun _ M1 => QL 4 (canS u n H p) M1) (fun y1 M1 e1 q1 h3 => ?_) (fun y1 M1 e1 q1 h3 M5 e5 q5 => ?_)
    · rw [q1.2, hw] at h3
      exact absurd h3 (by decide)
    · obtain ⟨rfl, _⟩ := q1
      exact rcaA_c hl0 hJ hB hp hT hI hH
    · obtain ⟨rfl, _⟩ := q1
      exact ⟨rfl, e5, rfl, q5⟩
  | false =>
    rw [if_neg (by decide)]
    refine rliA_40 hJ hl0 _ (wdCan_c hl0 hJ hB hp hT) (fun y1 M1 e1 q1 h3 => ?_) (fun _ _ _ => True) (fun y1 M1 e1 q1 h3 => ?_) (fun y1 M1 e1 q1 h3 => ?_)
    · obtain ⟨rfl, _⟩ := q1
      exact rliA_60e hl0 hJ hB hp hT hI hH
    all_goals exact absurd (q1.2.trans (by rw [hw]; rfl)) h3
theorem rliA_20e (hl0 : l.1.stackTraces = false) (hJ : ∀ e ∈ RK, M.2.2 e.1 e.2.1 = e.2.2) (hB : CB n u M) (hp : p ≤ n) (hT : tkAt u n p M) (hI : HI H) (hH : cHo 4 H M) : AW l (pI pg 52) (fcV M (QL 4 (if wdAt u n wWork p = true then worS u n H p else if wdAt u n wCan p = true then canS u n H p else if wdAt u n wLearn p = true then leaS u n H p else if wdAt u n wForget p = true then forS u n H p else .inl (1, tS u n p)) M)) 0 0 20 [(0, .ref 1), (1, .ref 4)] [] SHF M := by
  cases hw : wdAt u n wWork p with
  | true =>
    rw [if_pos rfl]
    refine rliA_20 hJ hl0 _ (wdWork_c hl0 hJ hB hp hT) (fun y1 M1 e1 q1 h3 => ?_) (fun _ M1 => QL 4 (worS u n H p) M1) (fun y1 M1 e1 q1 h3 => ?_) (fun y1 M1 e1 q1 h3 M5 e5 q5 => ?_)
    · rw [q1.2, hw] at h3
      exact absurd h3 (by decide)
    · obtain ⟨rfl, _⟩ := q1
      exact rwoA_c hl0 hJ hB hp hT hI hH
    · obtain ⟨rfl, _⟩ := q1
      exact ⟨rfl, e5, rfl, q5⟩
  | false =>
    rw [if_neg (by decide)]
    refine rliA_20 hJ hl0 _ (wdWork_c hl0 hJ hB hp hT) (fun y1 M1 e1 q1 h3 => ?_) (fun _ _ _ => True) (fun y1 M1 e1 q1 h3 => ?_) (fun y1 M1 e1 q1 h3 => ?_)
    · obtain ⟨rfl, _⟩ := q1
      exact rliA_40e hl0 hJ hB hp hT hI hH
    all_goals exact absurd (q1.2.trans (by rw [hw]; rfl)) h3
theorem rliA_0e (hl0 : l.1.stackTraces = false) (hJ : ∀ e ∈ RK, M.2.2 e.1 e.2.1 = e.2.2) (hB : CB n u M) (hp : p ≤ n) (hT : tkAt u n p M) (hI : HI H) (hH : cHo 4 H M) : AW l (pI pg 52) (fcV M (QL 4 (if wdAt u n wPerson p = true then perS u n H p else if wdAt u n wWork p = true then worS u n H p else if wdAt u n wCan p = true then canS u n H p else if wdAt u n wLearn p = true then leaS u n H p else if wdAt u n wForget p = true then forS u n H p else .inl (1, tS u n p)) M)) 0 0 0 [(0, .ref 1), (1, .ref 4)] [] SHF M := by
  cases hw : wdAt u n wPerson p with
  | true =>
    rw [if_pos rfl]
    refine rliA_0 hJ hl0 _ (wdPerson_c hl0 hJ hB hp hT) (fun y1 M1 e1 q1 h3 => ?_) (fun _ M1 => QL 4 (perS u n H p) M1) (fun y1 M1 e1 q1 h3 => ?_) (fun y1 M1 e1 q1 h3 M5 e5 q5 => ?_)
    · rw [q1.2, hw] at h3
      exact absurd h3 (by decide)
    · obtain ⟨rfl, _⟩ := q1
      exact rpeA_c hl0 hJ hB hp hT hI hH
    · obtain ⟨rfl, _⟩ := q1
      exact ⟨rfl, e5, rfl, q5⟩
  | false =>
    rw [if_neg (by decide)]
    refine rliA_0 hJ hl0 _ (wdPerson_c hl0 hJ hB hp hT) (fun y1 M1 e1 q1 h3 => ?_) (fun _ _ _ => True) (fun y1 M1 e1 q1 h3 => ?_) (fun y1 M1 e1 q1 h3 => ?_)
    · obtain ⟨rfl, _⟩ := q1
      exact rliA_20e hl0 hJ hB hp hT hI hH
    all_goals exact absurd (q1.2.trans (by rw [hw]; rfl)) h3
theorem rliA_c (hl0 : l.1.stackTraces = false) (hJ : ∀ e ∈ RK, M.2.2 e.1 e.2.1 = e.2.2) (hB : CB n u M) (hp : p ≤ n) (hT : tkAt u n p M) (hI : HI H) (hH : cHo 4 H M) : AC l (pI pg 52) (fcV M (QL 4 (linS u n H p) M)) 0 0 [.ref 1, .ref 4] SHF M := by
  refine fw_of hl0 ⟨by decide +kernel, by decide +kernel, by decide +kernel⟩ rfl ?_
  exact rliA_0e hl0 hJ hB hp hT hI hH
theorem fil7_c (hl0 : l.1.stackTraces = false) {x : Int32} : AC l (pI pg 12) (fcV M (fun M' => (∀ k, k < 6 → M'.1 7 k = x) ∧ (∀ b k, b ≠ 7 → M'.1 b k = M.1 b k) ∧ M'.2.1 = M.2.1)) 0 0 [.ref 7, .int x] SHF M := by
  refine fw_of hl0 ⟨by decide +kernel, by decide +kernel, by decide +kernel⟩ rfl ?_
  refine fil7_0 hl0 ?_
  have loop : ∀ (d i : Nat) (M1 : aM), i + d = 6 → M1.2.2 = M.2.2 → M1.2.1 = M.2.1 → (∀ k, k < i → M1.1 7 k = x) → (∀ b k, b ≠ 7 → M1.1 b k = M.1 b k) → AW l (pI pg 12) (fcV M (fun M' => (∀ k, k < 6 → M'.1 7 k = x) ∧ (∀ b k, b ≠ 7 → M'.1 b k = M.1 b k) ∧ M'.2.1 = M.2.1)) 0 0 5 [(0, .ref 7), (1, .int x), (2, .int (nI i)), (3, .int (Int32.ofNat 6))] [] SHF M1 := by
    intro d
    induction d with
    | zero =>
      intro i M1 hi e2 e3 h1 h2
      have hi2 : i = 6 := by omega
      subst hi2
      exact fil7_5 hl0 (fun _ => ⟨rfl, e2, rfl, h1, h2, e3⟩) (fun h => absurd (show (Int32.ofNat 6 : Int32) ≤ nI 6 by decide) h) (fun h => absurd (show (Int32.ofNat 6 : Int32) ≤ nI 6 by decide) h)
    | succ d ih =>
      intro i M1 hi e2 e3 h1 h2
      refine fil7_5 hl0 (fun h => ?_) (fun _ => vp_in_nI (by omega) (by decide)) (fun _ => ?_)
      · exact ge_no (a := i) (b := 6) (by omega) (by decide) h
      · have e1 : nI i + Int32.ofInt 1 = nI (i + 1) := nI_1 _
        rw [e1, nI_clamp (by omega)]
        refine ih (i + 1) _ (by omega) e2 e3 (fun k hk => ?_) (fun b k hb => ?_)
        · rw [set_1, if_pos rfl]
          by_cases e : k = i
          · rw [if_pos e]
          · rw [if_neg e]
            exact h1 k (by omega)
        · rw [set_1, if_neg hb]
          exact h2 b k hb
  exact loop 6 0 M (by omega) rfl rfl (fun k hk => absurd hk (Nat.not_lt_zero _)) (fun _ _ _ => rfl)
theorem fil8_c (hl0 : l.1.stackTraces = false) {x : Int32} : AC l (pI pg 12) (fcV M (fun M' => (∀ k, k < 6 → M'.1 8 k = x) ∧ (∀ b k, b ≠ 8 → M'.1 b k = M.1 b k) ∧ M'.2.1 = M.2.1)) 0 0 [.ref 8, .int x] SHF M := by
  refine fw_of hl0 ⟨by decide +kernel, by decide +kernel, by decide +kernel⟩ rfl ?_
  refine fil8_0 hl0 ?_
  have loop : ∀ (d i : Nat) (M1 : aM), i + d = 6 → M1.2.2 = M.2.2 → M1.2.1 = M.2.1 → (∀ k, k < i → M1.1 8 k = x) → (∀ b k, b ≠ 8 → M1.1 b k = M.1 b k) → AW l (pI pg 12) (fcV M (fun M' => (∀ k, k < 6 → M'.1 8 k = x) ∧ (∀ b k, b ≠ 8 → M'.1 b k = M.1 b k) ∧ M'.2.1 = M.2.1)) 0 0 5 [(0, .ref 8), (1, .int x), (2, .int (nI i)), (3, .int (Int32.ofNat 6))] [] SHF M1 := by
    intro d
    induction d with
    | zero =>
      intro i M1 hi e2 e3 h1 h2
      have hi2 : i = 6 := by omega
      subst hi2
      exact fil8_5 hl0 (fun _ => ⟨rfl, e2, rfl, h1, h2, e3⟩) (fun h => absurd (show (Int32.ofNat 6 : Int32) ≤ nI 6 by decide) h) (fun h => absurd (show (Int32.ofNat 6 : Int32) ≤ nI 6 by decide) h)
    | succ d ih =>
      intro i M1 hi e2 e3 h1 h2
      refine fil8_5 hl0 (fun h => ?_) (fun _ => vp_in_nI (by omega) (by decide)) (fun _ => ?_)
      · exact ge_no (a := i) (b := 6) (by omega) (by decide) h
      · have e1 : nI i + Int32.ofInt 1 = nI (i + 1) := nI_1 _
        rw [e1, nI_clamp (by omega)]
        refine ih (i + 1) _ (by omega) e2 e3 (fun k hk => ?_) (fun b k hb => ?_)
        · rw [set_1, if_pos rfl]
          by_cases e : k = i
          · rw [if_pos e]
          · rw [if_neg e]
            exact h1 k (by omega)
        · rw [set_1, if_neg hb]
          exact h2 b k hb
  exact loop 6 0 M (by omega) rfl rfl (fun k hk => absurd hk (Nat.not_lt_zero _)) (fun _ _ _ => rfl)
theorem fil11_c (hl0 : l.1.stackTraces = false) {x : Int32} : AC l (pI pg 12) (fcV M (fun M' => (∀ k, k < 8 → M'.1 11 k = x) ∧ (∀ b k, b ≠ 11 → M'.1 b k = M.1 b k) ∧ M'.2.1 = M.2.1)) 0 0 [.ref 11, .int x] SHF M := by
  refine fw_of hl0 ⟨by decide +kernel, by decide +kernel, by decide +kernel⟩ rfl ?_
  refine fil11_0 hl0 ?_
  have loop : ∀ (d i : Nat) (M1 : aM), i + d = 8 → M1.2.2 = M.2.2 → M1.2.1 = M.2.1 → (∀ k, k < i → M1.1 11 k = x) → (∀ b k, b ≠ 11 → M1.1 b k = M.1 b k) → AW l (pI pg 12) (fcV M (fun M' => (∀ k, k < 8 → M'.1 11 k = x) ∧ (∀ b k, b ≠ 11 → M'.1 b k = M.1 b k) ∧ M'.2.1 = M.2.1)) 0 0 5 [(0, .ref 11), (1, .int x), (2, .int (nI i)), (3, .int (Int32.ofNat 8))] [] SHF M1 := by
    intro d
    induction d with
    | zero =>
      intro i M1 hi e2 e3 h1 h2
      have hi2 : i = 8 := by omega
      subst hi2
      exact fil11_5 hl0 (fun _ => ⟨rfl, e2, rfl, h1, h2, e3⟩) (fun h => absurd (show (Int32.ofNat 8 : Int32) ≤ nI 8 by decide) h) (fun h => absurd (show (Int32.ofNat 8 : Int32) ≤ nI 8 by decide) h)
    | succ d ih =>
      intro i M1 hi e2 e3 h1 h2
      refine fil11_5 hl0 (fun h => ?_) (fun _ => vp_in_nI (by omega) (by decide)) (fun _ => ?_)
      · exact ge_no (a := i) (b := 8) (by omega) (by decide) h
      · have e1 : nI i + Int32.ofInt 1 = nI (i + 1) := nI_1 _
        rw [e1, nI_clamp (by omega)]
        refine ih (i + 1) _ (by omega) e2 e3 (fun k hk => ?_) (fun b k hb => ?_)
        · rw [set_1, if_pos rfl]
          by_cases e : k = i
          · rw [if_pos e]
          · rw [if_neg e]
            exact h1 k (by omega)
        · rw [set_1, if_neg hb]
          exact h2 b k hb
  exact loop 8 0 M (by omega) rfl rfl (fun k hk => absurd hk (Nat.not_lt_zero _)) (fun _ _ _ => rfl)
theorem fil12_c (hl0 : l.1.stackTraces = false) {x : Int32} : AC l (pI pg 12) (fcV M (fun M' => (∀ k, k < 48 → M'.1 12 k = x) ∧ (∀ b k, b ≠ 12 → M'.1 b k = M.1 b k) ∧ M'.2.1 = M.2.1)) 0 0 [.ref 12, .int x] SHF M := by
  refine fw_of hl0 ⟨by decide +kernel, by decide +kernel, by decide +kernel⟩ rfl ?_
  refine fil12_0 hl0 ?_
  have loop : ∀ (d i : Nat) (M1 : aM), i + d = 48 → M1.2.2 = M.2.2 → M1.2.1 = M.2.1 → (∀ k, k < i → M1.1 12 k = x) → (∀ b k, b ≠ 12 → M1.1 b k = M.1 b k) → AW l (pI pg 12) (fcV M (fun M' => (∀ k, k < 48 → M'.1 12 k = x) ∧ (∀ b k, b ≠ 12 → M'.1 b k = M.1 b k) ∧ M'.2.1 = M.2.1)) 0 0 5 [(0, .ref 12), (1, .int x), (2, .int (nI i)), (3, .int (Int32.ofNat 48))] [] SHF M1 := by
    intro d
    induction d with
    | zero =>
      intro i M1 hi e2 e3 h1 h2
      have hi2 : i = 48 := by omega
      subst hi2
      exact fil12_5 hl0 (fun _ => ⟨rfl, e2, rfl, h1, h2, e3⟩) (fun h => absurd (show (Int32.ofNat 48 : Int32) ≤ nI 48 by decide) h) (fun h => absurd (show (Int32.ofNat 48 : Int32) ≤ nI 48 by decide) h)
    | succ d ih =>
      intro i M1 hi e2 e3 h1 h2
      refine fil12_5 hl0 (fun h => ?_) (fun _ => vp_in_nI (by omega) (by decide)) (fun _ => ?_)
      · exact ge_no (a := i) (b := 48) (by omega) (by decide) h
      · have e1 : nI i + Int32.ofInt 1 = nI (i + 1) := nI_1 _
        rw [e1, nI_clamp (by omega)]
        refine ih (i + 1) _ (by omega) e2 e3 (fun k hk => ?_) (fun b k hb => ?_)
        · rw [set_1, if_pos rfl]
          by_cases e : k = i
          · rw [if_pos e]
          · rw [if_neg e]
            exact h1 k (by omega)
        · rw [set_1, if_neg hb]
          exact h2 b k hb
  exact loop 48 0 M (by omega) rfl rfl (fun k hk => absurd hk (Nat.not_lt_zero _)) (fun _ _ _ => rfl)
theorem cleA_c (hl0 : l.1.stackTraces = false) (hJ : ∀ e ∈ RK, M.2.2 e.1 e.2.1 = e.2.2) : AC l (pI pg 46) (fcV M (QHA HS0 M)) 0 0 [.ref 4] SHF M := by
  refine fw_of hl0 ⟨by decide +kernel, by decide +kernel, by decide +kernel⟩ rfl ?_
  refine cleA_0 hJ hl0 _ (fil7_c hl0) (fun M1 M' => (∀ k, k < 6 → M'.1 8 k = Int32.ofInt 0) ∧ (∀ b k, b ≠ 8 → M'.1 b k = M1.1 b k) ∧ M'.2.1 = M1.2.1) (fun M1 e1 q1 => fil8_c hl0) (fun _ M3 M' => (∀ k, k < 8 → M'.1 11 k = Int32.ofInt 0) ∧ (∀ b k, b ≠ 11 → M'.1 b k = M3.1 b k) ∧ M'.2.1 = M3.2.1) (fun M1 e1 q1 M3 e3 q3 => fil11_c hl0) (fun _ _ M5 M' => (∀ k, k < 48 → M'.1 12 k = Int32.ofInt 0) ∧ (∀ b k, b ≠ 12 → M'.1 b k = M5.1 b k) ∧ M'.2.1 = M5.2.1) (fun M1 e1 q1 M3 e3 q3 M5 e5 q5 => fil12_c hl0) (fun M1 e1 q1 M3 e3 q3 M5 e5 q5 M7 e7 q7 => ?_)
  refine ⟨rfl, e7.trans (e5.trans (e3.trans e1)), rfl, ?_, ?_⟩
  · refine ⟨?_, ?_, ?_, ?_, fun i hi => absurd hi (Nat.not_lt_zero _), fun i hi => absurd hi (Nat.not_lt_zero _), fun i hi => ?_, fun i hi => ?_, fun i hi => absurd hi (Nat.not_lt_zero _), fun i hi => absurd hi (Nat.not_lt_zero _), fun i hi => ?_, fun i hi => ?_, fun i hi => absurd hi (Nat.not_lt_zero _), fun i hi => absurd hi (Nat.not_lt_zero _), fun i hi => absurd hi (Nat.not_lt_zero _), fun i hi => absurd hi (Nat.not_lt_zero _)⟩
    · rw [q7.2.1 _ _ (by decide), q5.2.1 _ _ (by decide), q3.2.1 _ _ (by decide), q1.2.1 _ _ (by decide)]
      rfl
    · rw [q7.2.1 _ _ (by decide), q5.2.1 _ _ (by decide), q3.2.1 _ _ (by decide), q1.2.1 _ _ (by decide)]
      rfl
    · rw [q7.2.1 _ _ (by decide), q5.2.1 _ _ (by decide), q3.2.1 _ _ (by decide), q1.2.1 _ _ (by decide)]
      rfl
    · rw [q7.2.1 _ _ (by decide), q5.2.1 _ _ (by decide), q3.2.1 _ _ (by decide), q1.2.1 _ _ (by decide)]
      rfl
    · exact (q7.2.1 7 i (by decide)).trans ((q5.2.1 7 i (by decide)).trans ((q3.2.1 7 i (by decide)).trans (q1.1 i hi)))
    · exact (q7.2.1 8 i (by decide)).trans ((q5.2.1 8 i (by decide)).trans (q3.1 i hi))
    · exact (q7.2.1 11 i (by decide)).trans (q5.1 i hi)
    · exact q7.1 i hi
  · refine ⟨fun a k ha => ?_, q7.2.2.trans (q5.2.2.trans (q3.2.2.trans q1.2.2))⟩
    rw [q7.2.1 _ _ (by omega), q5.2.1 _ _ (by omega), q3.2.1 _ _ (by omega), q1.2.1 _ _ (by omega), set_1, if_neg (by omega), set_1, if_neg (by omega), set_1, if_neg (by omega), set_1, if_neg (by omega)]
theorem rewA_c (hl0 : l.1.stackTraces = false) (hJ : ∀ e ∈ RK, M.2.2 e.1 e.2.1 = e.2.2) {x : Int32} : AC l (pI pg 47) (fcV M (fun M' => (aset (aset M 2 2 (.int x)) 2 5 (.int (Int32.ofInt 0))) = M')) 0 0 [.ref 2, .int x] SHF M := by
  refine fw_of hl0 ⟨by decide +kernel, by decide +kernel, by decide +kernel⟩ rfl ?_
  exact rew_0 hJ hl0 ⟨rfl, rfl, rfl, rfl⟩
/-- the whole text: behind it a fault, or a house in the draft -/
def reFA (M M' : aM) : Prop := (∀ a k, (a = 2 → k ≠ 2 ∧ k ≠ 3 ∧ k ≠ 4 ∧ k ≠ 5) → (a = 1 → k ≠ 1 ∧ k ≠ 2) → (a < 4 ∨ 4 + 12 < a) → M'.1 a k = M.1 a k) ∧ M'.2.1 = M.2.1
def QRA (r : Flt ⊕ HS) (M : aM) : Int32 → aM → Prop := fun y M' => reFA M M' ∧ y = M'.1 1 1 ∧ (∀ f, r = .inl f → flt f M') ∧ ∀ H, r = .inr H → cHo 4 H M' ∧ HI H ∧ M'.1 1 1 = Int32.ofInt 0 ∧ M'.1 1 2 = Int32.ofInt (-1)
theorem reaA_c (hl0 : l.1.stackTraces = false) (hJ : ∀ e ∈ RK, M.2.2 e.1 e.2.1 = e.2.2) (n8 : n ≤ 800) (hu : ∀ i, u i < 256) (hb : ∀ i, i < n → M.1 3 i = sB (u i)) : AC l (pI pg 45) (fcI M (QRA (parS u n (n + 1) HS0 0) M)) 0 0 [.ref 1, .ref 4, .int (nI n)] SHF M := by
  refine fw_of hl0 ⟨by decide +kernel, by decide +kernel, by decide +kernel⟩ rfl ?_
  have loop : ∀ (d i p : Nat) (H : HS) (M1 : aM), i + d = n + 1 → p ≤ n → HI H → cHo 4 H M1 → CB n u M1 → M1.1 2 5 = nI p → M1.1 1 1 = Int32.ofInt 0 → M1.1 1 2 = Int32.ofInt (-1) → reFA M M1 → M1.2.2 = M.2.2 → AW l (pI pg 45) (fcI M (QRA (parS u n d H p) M)) 0 0 24 [(3, .int (nI i)), (2, .int (nI n)), (1, .ref 4), (0, .ref 1)] [] SHF M1 := by
    intro d
    induction d with
    | zero =>
      intro i p H M1 hi hp hI hH hB h5 h1 h2 hF e1
      have no : nI n < nI i := by rw [nI_ltI (by omega) (by omega)]; omega
      refine reaA_24 (by rw [e1]; exact hJ) hl0 (fun _ => ⟨rfl, e1, _, rfl, hF, rfl, fun f hf => ?_, fun H' hH' => ?_⟩) (fun h => absurd no h) (fun _ => True) (fun h => absurd no h) (fun _ _ => True) (fun h => absurd no h) (fun h => absurd no h) (fun h => absurd no h)
      · cases hf
      · cases hH'
        exact ⟨hH, hI, h1, h2⟩
    | succ d ih =>
      intro i p H M1 hi hp hI hH hB h5 h1 h2 hF e1
      have hJ1 : ∀ e ∈ RK, M1.2.2 e.1 e.2.1 = e.2.2 := by rw [e1]; exact hJ
      have yes : ¬ nI n < nI i := by rw [nI_ltI (by omega) (by omega)]; omega
      have k4 : tK u n p ≤ 4 := tkK_le
      have z : ∀ {M5 : aM}, QA u n p M1 M5 → (M5.1 2 3 = 0 ↔ tK u n p = 0) := fun {M5} q => by
        rw [q.1.2.1]
        exact ⟨fun h => nI_injN (b := 0) (by omega) (by decide) h, fun h => by show nI (tK u n p) = 0; rw [h]; rfl⟩
      have F1 : ∀ {M5 : aM}, QA u n p M1 M5 → reFA M M5 := fun {M5} q => ⟨fun a k g1 g2 g3 => (q.2.1 a k (fun e => ⟨(g1 e).2.1, (g1 e).2.2.1, (g1 e).2.2.2⟩)).trans (hF.1 a k g1 g2 g3), q.2.2.trans hF.2⟩
      show AW l (pI pg 45) (fcI M (QRA (if tK u n p = 0 then .inr H else bnd (linS u n H p) fun a => parS u n d a.1 a.2) M)) 0 0 24 _ _ _ _
      by_cases hk : tK u n p = 0
      · rw [if_pos hk]
        refine reaA_24 hJ1 hl0 (fun h => absurd h yes) (fun _ h => absurd h1 h) (QA u n p M1) (fun _ _ => adv_c hl0 (rk_rt hJ1 rfl) hB hp h5) (fun _ _ => True) (fun _ _ M5 e5 q5 h7 => absurd ((z q5).mpr hk) h7) (fun _ _ M5 e5 q5 h7 => absurd ((z q5).mpr hk) h7) (fun _ _ M5 e5 q5 h7 => ⟨rfl, e5.trans e1, _, rfl, F1 q5, rfl, fun f hf => ?_, fun H' hH' => ?_⟩)
        · cases hf
        · cases hH'
          exact ⟨cH_R (by decide) hH (rfF_of q5.2), hI, (q5.2.1 1 1 (fun e => absurd e (by decide))).trans h1, (q5.2.1 1 2 (fun e => absurd e (by decide))).trans h2⟩
      · rw [if_neg hk]
        refine reaA_24 hJ1 hl0 (fun h => absurd h yes) (fun _ h => absurd h1 h) (QA u n p M1) (fun _ _ => adv_c hl0 (rk_rt hJ1 rfl) hB hp h5) (fun M5 => QL 4 (linS u n H p) M5) (fun _ _ M5 e5 q5 h7 => rliA_c hl0 (by rw [e5]; exact hJ1) (CB_F hB q5.2) hp q5.1 hI (cH_R (by decide) hH (rfF_of q5.2))) (fun _ _ M5 e5 q5 h7 M8 e8 q8 => ?_) (fun _ _ M5 e5 q5 h7 => absurd ((z q5).mp h7) hk)
        have F8 : reFA M M8 := ⟨fun a k g1 g2 g3 => (q8.1.1 a k (fun e => ⟨(g1 e).2.1, (g1 e).2.2.1, (g1 e).2.2.2⟩) g2 g3).trans ((F1 q5).1 a k g1 g2 g3), q8.1.2.trans (F1 q5).2⟩
        have hJ8 : ∀ e ∈ RK, M8.2.2 e.1 e.2.1 = e.2.2 := by rw [e8, e5]; exact hJ1
        have e1i : nI i + Int32.ofInt 1 = nI (i + 1) := nI_1 _
        rw [e1i]
        cases hl : linS u n H p with
        | inl f =>
          have g := q8.2.1 f hl
          have hf1 := linS_f hl
          have nz : ¬ M8.1 1 1 = 0 := fun h => by
            rw [g.1] at h
            have := nI_injN (b := 0) (by omega) (by decide) h
            omega
          refine reaA_24 hJ8 hl0 (fun _ => ⟨rfl, e8.trans (e5.trans e1), _, rfl, F8, rfl, fun f' hf => ?_, fun H' hH' => ?_⟩) (fun _ _ => ⟨rfl, e8.trans (e5.trans e1), _, rfl, F8, rfl, fun f' hf => ?_, fun H' hH' => ?_⟩) (fun _ => True) (fun _ h => absurd h nz) (fun _ _ => True) (fun _ h => absurd h nz) (fun _ h => absurd h nz) (fun _ h => absurd h nz)
          · cases hf
            exact g
          · cases hH'
          · cases hf
            exact g
          · cases hH'
        | inr a =>
          have g := q8.2.2 a hl
          have gl := linS_ok hI hp hl
          have B8 : CB n u M8 := by
            refine ⟨hB.1, hB.2.1, ?_, fun i hi => ?_⟩
            · rw [q8.1.1 2 2 (fun _ => by decide) (fun e => absurd e (by decide)) (by decide)]
              exact (CB_F hB q5.2).2.2.1
            · rw [q8.1.1 3 i (fun e => absurd e (by decide)) (fun e => absurd e (by decide)) (by decide)]
              exact (CB_F hB q5.2).2.2.2 i hi
          exact ih (i + 1) a.2 a.1 M8 (by omega) gl.2.2 gl.1 g.1 B8 g.2.1 (g.2.2.1.trans ((q5.2.1 1 1 (fun e => absurd e (by decide))).trans h1)) (g.2.2.2.trans ((q5.2.1 1 2 (fun e => absurd e (by decide))).trans h2)) F8 (e8.trans (e5.trans e1))
  refine reaA_0 hJ hl0 (QHA HS0 M) (cleA_c hl0 hJ) (fun M1 M' => (aset (aset M1 2 2 (.int (nI n))) 2 5 (.int (Int32.ofInt 0))) = M') (fun M1 e1 q1 => rewA_c hl0 (by rw [e1]; exact hJ)) (fun M1 e1 q1 M3 e3 q3 => ?_)
  subst q3
  refine loop (n + 1) 0 0 HS0 _ (by omega) (by omega) HI_0 (cH_eq q1.1 (fun a k h1 h2 => ?_)) ⟨n8, hu, rfl, fun i hi => ?_⟩ rfl rfl rfl ⟨fun a k g1 g2 g3 => ?_, q1.2.2⟩ e1
  · rw [set_1, if_neg (by omega), set_1, if_neg (by omega), set_1, if_neg (by omega), set_1, if_neg (by omega)]
  · show M1.1 3 i = sB (u i)
    rw [q1.2.1 3 i (by decide)]
    exact hb i hi
  · have ee : M1.1 a k = M.1 a k := q1.2.1 a k g3
    rw [set_1]
    by_cases e : a = 1
    · have := g2 e
      rw [if_pos e, if_neg this.2, set_1, if_pos e, if_neg this.1, set_1, if_neg (by omega), set_1, if_neg (by omega)]
      exact ee
    · rw [if_neg e, set_1, if_neg e, set_1]
      by_cases e' : a = 2
      · have := g1 e'
        rw [if_pos e', if_neg this.2.2.2, set_1, if_pos e', if_neg this.1]
        exact ee
      · rw [if_neg e', set_1, if_neg e']
        exact ee
end RLA
section RLB
variable {l : aL} {M : aM} {n p : Nat} {u : Nat → Nat} {H : HS}
theorem rwoB_e (hl0 : l.1.stackTraces = false) (hJ : ∀ e ∈ RK, M.2.2 e.1 e.2.1 = e.2.2) (hB : CB n u M) (hI : HI H) (hH : cHo 17 H M) {M1 : aM} (hF : tkF M M1) (e1 : M1.2.2 = M.2.2) {q : Nat} (hq : q ≤ n) (h5 : M1.1 2 5 = nI q) {x y : Nat} (hc : H.wo < 8) : AW l (pI pg 74) (fcV M (QL 17 (bnd (endS u n q) fun c => .inr (addW H x y, c)) M)) 0 0 50 [(0, .ref 1), (1, .ref 17), (2, .int (nI x)), (3, .int (nI y))] [] SHF M1 := by
  have hJ1 : ∀ e ∈ RK, M1.2.2 e.1 e.2.1 = e.2.2 := by rw [e1]; exact hJ
  have cc := rle_c hl0 hJ1 (CB_F hB hF) hq h5
  cases hr : endS u n q with
  | inl f =>
    refine rwoB_50 hJ1 hl0 (QE (endS u n q) M1) cc (fun y1 M2 e2 q2 h3 => ?_) (fun _ _ _ => True) (fun y1 M2 e2 q2 h3 => absurd (q2.2.1 f hr).1 h3) (fun y1 M2 e2 q2 h3 => absurd (q2.2.1 f hr).1 h3)
    exact QL_bad rfl (q2.2.1 f hr).2 (rfF_trans (rfF_of hF) q2.1) (e2.trans e1)
  | inr c =>
    refine rwoB_50 hJ1 hl0 (QE (endS u n q) M1) cc (fun y1 M2 e2 q2 h3 => ?_) (fun _ M2 => QHB (addW H x y) M2) (fun y1 M2 e2 q2 h3 => ?_) (fun y1 M2 e2 q2 h3 M3 e3 q3 => ?_)
    · rw [(q2.2.2 c hr).1] at h3
      exact absurd h3 (by decide)
    · exact adwB_c hl0 (by rw [e2, e1]; exact hJ) (cH_R (by decide) (cH_R (by decide) hH (rfF_of hF)) q2.1) hc
    · exact QL_ok (by decide) rfl (tkF_trans hF (q2.2.2 c hr).2.2) q3.2 q3.1 (q2.2.2 c hr).2.1 (e2.trans e1) e3
theorem rwoB_m1 (hl0 : l.1.stackTraces = false) (hJ : ∀ e ∈ RK, M.2.2 e.1 e.2.1 = e.2.2) (hB : CB n u M) (hI : HI H) (hH : cHo 17 H M) {M1 : aM} (hF : tkF M M1) (e1 : M1.2.2 = M.2.2) {q : Nat} (hq : q ≤ n) (h5 : M1.1 2 5 = nI q) {x : Nat} (hc : H.wo < 8) (hx : x ≤ 23) : AW l (pI pg 74) (fcV M (QL 17 (bnd (numS u n 1 (min 8 (24 - x)) q) fun b => bnd (endS u n b.2) fun c => .inr (addW H x b.1, c)) M)) 0 0 30 [(0, .ref 1), (1, .ref 17), (2, .int (nI x))] [] SHF M1 := by
  have hJ1 : ∀ e ∈ RK, M1.2.2 e.1 e.2.1 = e.2.2 := by rw [e1]; exact hJ
  have hB1 := CB_F hB hF
  have hH1 : cHo 17 H M1 := cH_R (by decide) hH (rfF_of hF)
  have hp6 := hI.pe
  have hw8 := hI.wo
  have cc := num_c hl0 hJ1 hB1 hq h5 (lo := 1) (hi := min 8 (24 - x)) (by decide) (by omega) (x := Int32.ofInt 1) (y := miV ((Int8.ofInt 8).toInt32) (((Int8.ofInt 24).toInt32) - (nI x))) (by decide) (mi24 hx)
  cases hr : numS u n 1 (min 8 (24 - x)) q with
  | inl f => exact rwoB_30 hJ1 hl0 _ cc (fun y1 M2 e2 q2 h3 => QL_bad rfl (q2.2.1 f hr).2 (rfF_trans (rfF_of hF) q2.1) (e2.trans e1)) (fun y1 M2 e2 q2 h3 => absurd (q2.2.1 f hr).1 h3)
  | inr a =>
    have ha := numS_ok hr
    have ha2 : a.2 ≤ n := by rw [ha.2.2]; exact tE_le' hq
    refine rwoB_30 hJ1 hl0 _ cc (fun y1 M2 e2 q2 h3 => absurd ((q2.2.2 a hr).1.symm.trans h3) (nI_nm1 (by omega))) (fun y1 M2 e2 q2 h3 => ?_)
    obtain ⟨rfl, g5, g4, gF⟩ := q2.2.2 a hr
    exact rwoB_e hl0 hJ hB hI hH (tkF_trans hF gF) (e2.trans e1) ha2 g5 hc
theorem rcaB_e (hl0 : l.1.stackTraces = false) (hJ : ∀ e ∈ RK, M.2.2 e.1 e.2.1 = e.2.2) (hB : CB n u M) (hI : HI H) (hH : cHo 17 H M) {M1 : aM} (hF : tkF M M1) (e1 : M1.2.2 = M.2.2) {q : Nat} (hq : q ≤ n) (h5 : M1.1 2 5 = nI q) {i w v : Nat} (hi : i < H.pe) (hw : w < H.wo) : AW l (pI pg 78) (fcV M (QL 17 (bnd (endS u n q) fun c => .inr (addS H i w v, c)) M)) 0 0 40 [(0, .ref 1), (1, .ref 17), (2, .int (nI i)), (3, .int (nI w)), (4, .int (nI v))] [] SHF M1 := by
  have hJ1 : ∀ e ∈ RK, M1.2.2 e.1 e.2.1 = e.2.2 := by rw [e1]; exact hJ
  have cc := rle_c hl0 hJ1 (CB_F hB hF) hq h5
  cases hr : endS u n q with
  | inl f =>
    refine rcaB_40 hJ1 hl0 (QE (endS u n q) M1) cc (fun y1 M2 e2 q2 h3 => ?_) (fun _ _ _ => True) (fun y1 M2 e2 q2 h3 => absurd (q2.2.1 f hr).1 h3) (fun y1 M2 e2 q2 h3 => absurd (q2.2.1 f hr).1 h3)
    exact QL_bad rfl (q2.2.1 f hr).2 (rfF_trans (rfF_of hF) q2.1) (e2.trans e1)
  | inr c =>
    refine rcaB_40 hJ1 hl0 (QE (endS u n q) M1) cc (fun y1 M2 e2 q2 h3 => ?_) (fun _ M2 => QHB (addS H i w v) M2) (fun y1 M2 e2 q2 h3 => ?_) (fun y1 M2 e2 q2 h3 M3 e3 q3 => ?_)
    · rw [(q2.2.2 c hr).1] at h3
      exact absurd h3 (by decide)
    · exact adsB_c hl0 (by rw [e2, e1]; exact hJ) hI (cH_R (by decide) (cH_R (by decide) hH (rfF_of hF)) q2.1) hi hw
    · exact QL_ok (by decide) rfl (tkF_trans hF (q2.2.2 c hr).2.2) q3.2 q3.1 (q2.2.2 c hr).2.1 (e2.trans e1) e3
theorem rcaB_m2 (hl0 : l.1.stackTraces = false) (hJ : ∀ e ∈ RK, M.2.2 e.1 e.2.1 = e.2.2) (hB : CB n u M) (hI : HI H) (hH : cHo 17 H M) {M1 : aM} (hF : tkF M M1) (e1 : M1.2.2 = M.2.2) {q : Nat} (hq : q ≤ n) (h5 : M1.1 2 5 = nI q) {i w : Nat} (hi : i < H.pe) (hw : w < H.wo) : AW l (pI pg 78) (fcV M (QL 17 (bnd (numS u n 1 9 q) fun c => bnd (endS u n c.2) fun d => .inr (addS H i w c.1, d)) M)) 0 0 25 [(0, .ref 1), (1, .ref 17), (2, .int (nI i)), (3, .int (nI w))] [] SHF M1 := by
  have hJ1 : ∀ e ∈ RK, M1.2.2 e.1 e.2.1 = e.2.2 := by rw [e1]; exact hJ
  have hB1 := CB_F hB hF
  have hH1 : cHo 17 H M1 := cH_R (by decide) hH (rfF_of hF)
  have hp6 := hI.pe
  have hw8 := hI.wo
  have cc := num_c hl0 hJ1 hB1 hq h5 (lo := 1) (hi := 9) (by omega) (by omega) (x := Int32.ofInt 1) (y := (Int8.ofInt 9).toInt32) (by decide) (by decide)
  cases hr : numS u n 1 9 q with
  | inl f => exact rcaB_25 hJ1 hl0 _ cc (fun y1 M2 e2 q2 h3 => QL_bad rfl (q2.2.1 f hr).2 (rfF_trans (rfF_of hF) q2.1) (e2.trans e1)) (fun y1 M2 e2 q2 h3 => absurd (q2.2.1 f hr).1 h3)
  | inr a =>
    have ha := numS_ok hr
    have ha2 : a.2 ≤ n := by rw [ha.2.2]; exact tE_le' hq
    refine rcaB_25 hJ1 hl0 _ cc (fun y1 M2 e2 q2 h3 => absurd ((q2.2.2 a hr).1.symm.trans h3) (nI_nm1 (by omega))) (fun y1 M2 e2 q2 h3 => ?_)
    obtain ⟨rfl, g5, g4, gF⟩ := q2.2.2 a hr
    exact rcaB_e hl0 hJ hB hI hH (tkF_trans hF gF) (e2.trans e1) ha2 g5 hi hw
theorem rcaB_m1 (hl0 : l.1.stackTraces = false) (hJ : ∀ e ∈ RK, M.2.2 e.1 e.2.1 = e.2.2) (hB : CB n u M) (hI : HI H) (hH : cHo 17 H M) {M1 : aM} (hF : tkF M M1) (e1 : M1.2.2 = M.2.2) {q : Nat} (hq : q ≤ n) (h5 : M1.1 2 5 = nI q) {i : Nat} (hi : i < H.pe) : AW l (pI pg 78) (fcV M (QL 17 (bnd (newS u n H i q) fun b => bnd (numS u n 1 9 b.2) fun c => bnd (endS u n c.2) fun d => .inr (addS H i b.1 c.1, d)) M)) 0 0 12 [(0, .ref 1), (1, .ref 17), (2, .int (nI i))] [] SHF M1 := by
  have hJ1 : ∀ e ∈ RK, M1.2.2 e.1 e.2.1 = e.2.2 := by rw [e1]; exact hJ
  have hB1 := CB_F hB hF
  have hH1 : cHo 17 H M1 := cH_R (by decide) hH (rfF_of hF)
  have hp6 := hI.pe
  have hw8 := hI.wo
  have cc := rnwB_c hl0 hJ1 hB1 hq h5 hI hH1 hi
  cases hr : newS u n H i q with
  | inl f => exact rcaB_12 hJ1 hl0 _ cc (fun y1 M2 e2 q2 h3 => absurd (q2.2.1 f hr).1 h3) (fun y1 M2 e2 q2 h3 => QL_bad rfl (q2.2.1 f hr).2 (rfF_trans (rfF_of hF) q2.1) (e2.trans e1))
  | inr a =>
    have ha := newS_ok hr
    have ha2 : a.2 ≤ n := by rw [ha.2.1]; exact tE_le' hq
    refine rcaB_12 hJ1 hl0 _ cc (fun y1 M2 e2 q2 h3 => ?_) (fun y1 M2 e2 q2 h3 => absurd ((q2.2.2 a hr).1.symm.trans h3) (nI_nm1 (by omega)))
    obtain ⟨rfl, g5, g4, gF⟩ := q2.2.2 a hr
    exact rcaB_m2 hl0 hJ hB hI hH (tkF_trans hF gF) (e2.trans e1) ha2 g5 hi ha.1
theorem rcaB_m0 (hl0 : l.1.stackTraces = false) (hJ : ∀ e ∈ RK, M.2.2 e.1 e.2.1 = e.2.2) (hB : CB n u M) (hI : HI H) (hH : cHo 17 H M) {M1 : aM} (hF : tkF M M1) (e1 : M1.2.2 = M.2.2) {q : Nat} (hq : q ≤ n) (h5 : M1.1 2 5 = nI q)  : AW l (pI pg 78) (fcV M (QL 17 (bnd (idS u n H.pe q) fun a => bnd (newS u n H a.1 a.2) fun b => bnd (numS u n 1 9 b.2) fun c => bnd (endS u n c.2) fun d => .inr (addS H a.1 b.1 c.1, d)) M)) 0 0 0 [(0, .ref 1), (1, .ref 17)] [] SHF M1 := by
  have hJ1 : ∀ e ∈ RK, M1.2.2 e.1 e.2.1 = e.2.2 := by rw [e1]; exact hJ
  have hB1 := CB_F hB hF
  have hH1 : cHo 17 H M1 := cH_R (by decide) hH (rfF_of hF)
  have hp6 := hI.pe
  have hw8 := hI.wo
  have cc := rpnB_c hl0 hJ1 hB1 hq h5 hI hH1
  cases hr : idS u n H.pe q with
  | inl f => exact rcaB_0 hJ1 hl0 _ cc (fun y1 M2 e2 q2 h3 => absurd (q2.2.1 f hr).1 h3) (fun y1 M2 e2 q2 h3 => QL_bad rfl (q2.2.1 f hr).2 (rfF_trans (rfF_of hF) q2.1) (e2.trans e1))
  | inr a =>
    have ha := idS_ok hr
    have ha2 : a.2 ≤ n := by rw [ha.2]; exact tE_le' hq
    refine rcaB_0 hJ1 hl0 _ cc (fun y1 M2 e2 q2 h3 => ?_) (fun y1 M2 e2 q2 h3 => absurd ((q2.2.2 a hr).1.symm.trans h3) (nI_nm1 (by omega)))
    obtain ⟨rfl, g5, g4, gF⟩ := q2.2.2 a hr
    exact rcaB_m1 hl0 hJ hB hI hH (tkF_trans hF gF) (e2.trans e1) ha2 g5 ha.1
theorem rlrB_e (hl0 : l.1.stackTraces = false) (hJ : ∀ e ∈ RK, M.2.2 e.1 e.2.1 = e.2.2) (hB : CB n u M) (hI : HI H) (hH : cHo 17 H M) {M1 : aM} (hF : tkF M M1) (e1 : M1.2.2 = M.2.2) {q : Nat} (hq : q ≤ n) (h5 : M1.1 2 5 = nI q) {i w v y : Nat} (hc : H.te < 8) (hi : i < H.pe) (hw : w < H.wo) : AW l (pI pg 82) (fcV M (QL 17 (bnd (endS u n q) fun c => .inr (addL H i w v y, c)) M)) 0 0 72 [(0, .ref 1), (1, .ref 17), (2, .int (nI i)), (3, .int (nI w)), (4, .int (nI v)), (5, .int (nI y))] [] SHF M1 := by
  have hJ1 : ∀ e ∈ RK, M1.2.2 e.1 e.2.1 = e.2.2 := by rw [e1]; exact hJ
  have cc := rle_c hl0 hJ1 (CB_F hB hF) hq h5
  cases hr : endS u n q with
  | inl f =>
    refine rlrB_72 hJ1 hl0 (QE (endS u n q) M1) cc (fun y1 M2 e2 q2 h3 => ?_) (fun _ _ _ => True) (fun y1 M2 e2 q2 h3 => absurd (q2.2.1 f hr).1 h3) (fun y1 M2 e2 q2 h3 => absurd (q2.2.1 f hr).1 h3)
    exact QL_bad rfl (q2.2.1 f hr).2 (rfF_trans (rfF_of hF) q2.1) (e2.trans e1)
  | inr c =>
    refine rlrB_72 hJ1 hl0 (QE (endS u n q) M1) cc (fun y1 M2 e2 q2 h3 => ?_) (fun _ M2 => QHB (addL H i w v y) M2) (fun y1 M2 e2 q2 h3 => ?_) (fun y1 M2 e2 q2 h3 M3 e3 q3 => ?_)
    · rw [(q2.2.2 c hr).1] at h3
      exact absurd h3 (by decide)
    · exact adtB_c hl0 (by rw [e2, e1]; exact hJ) hI (cH_R (by decide) (cH_R (by decide) hH (rfF_of hF)) q2.1) hc hi hw
    · exact QL_ok (by decide) rfl (tkF_trans hF (q2.2.2 c hr).2.2) q3.2 q3.1 (q2.2.2 c hr).2.1 (e2.trans e1) e3
theorem rlrB_m3 (hl0 : l.1.stackTraces = false) (hJ : ∀ e ∈ RK, M.2.2 e.1 e.2.1 = e.2.2) (hB : CB n u M) (hI : HI H) (hH : cHo 17 H M) {M1 : aM} (hF : tkF M M1) (e1 : M1.2.2 = M.2.2) {q : Nat} (hq : q ≤ n) (h5 : M1.1 2 5 = nI q) {i w v : Nat} (hc : H.te < 8) (hi : i < H.pe) (hw : w < H.wo) : AW l (pI pg 82) (fcV M (QL 17 (bnd (numS u n 1 99 q) fun d => bnd (endS u n d.2) fun e => .inr (addL H i w v d.1, e)) M)) 0 0 57 [(0, .ref 1), (1, .ref 17), (2, .int (nI i)), (3, .int (nI w)), (4, .int (nI v))] [] SHF M1 := by
  have hJ1 : ∀ e ∈ RK, M1.2.2 e.1 e.2.1 = e.2.2 := by rw [e1]; exact hJ
  have hB1 := CB_F hB hF
  have hH1 : cHo 17 H M1 := cH_R (by decide) hH (rfF_of hF)
  have hp6 := hI.pe
  have hw8 := hI.wo
  have cc := num_c hl0 hJ1 hB1 hq h5 (lo := 1) (hi := 99) (by omega) (by omega) (x := Int32.ofInt 1) (y := (Int8.ofInt 99).toInt32) (by decide) (by decide)
  cases hr : numS u n 1 99 q with
  | inl f => exact rlrB_57 hJ1 hl0 _ cc (fun y1 M2 e2 q2 h3 => QL_bad rfl (q2.2.1 f hr).2 (rfF_trans (rfF_of hF) q2.1) (e2.trans e1)) (fun y1 M2 e2 q2 h3 => absurd (q2.2.1 f hr).1 h3)
  | inr a =>
    have ha := numS_ok hr
    have ha2 : a.2 ≤ n := by rw [ha.2.2]; exact tE_le' hq
    refine rlrB_57 hJ1 hl0 _ cc (fun y1 M2 e2 q2 h3 => absurd ((q2.2.2 a hr).1.symm.trans h3) (nI_nm1 (by omega))) (fun y1 M2 e2 q2 h3 => ?_)
    obtain ⟨rfl, g5, g4, gF⟩ := q2.2.2 a hr
    exact rlrB_e hl0 hJ hB hI hH (tkF_trans hF gF) (e2.trans e1) ha2 g5 hc hi hw
theorem rlrB_m2 (hl0 : l.1.stackTraces = false) (hJ : ∀ e ∈ RK, M.2.2 e.1 e.2.1 = e.2.2) (hB : CB n u M) (hI : HI H) (hH : cHo 17 H M) {M1 : aM} (hF : tkF M M1) (e1 : M1.2.2 = M.2.2) {q : Nat} (hq : q ≤ n) (h5 : M1.1 2 5 = nI q) {i w : Nat} (hc : H.te < 8) (hi : i < H.pe) (hw : w < H.wo) : AW l (pI pg 82) (fcV M (QL 17 (bnd (numS u n 1 9 q) fun c => bnd (numS u n 1 99 c.2) fun d => bnd (endS u n d.2) fun e => .inr (addL H i w c.1 d.1, e)) M)) 0 0 41 [(0, .ref 1), (1, .ref 17), (2, .int (nI i)), (3, .int (nI w))] [] SHF M1 := by
  have hJ1 : ∀ e ∈ RK, M1.2.2 e.1 e.2.1 = e.2.2 := by rw [e1]; exact hJ
  have hB1 := CB_F hB hF
  have hH1 : cHo 17 H M1 := cH_R (by decide) hH (rfF_of hF)
  have hp6 := hI.pe
  have hw8 := hI.wo
  have cc := num_c hl0 hJ1 hB1 hq h5 (lo := 1) (hi := 9) (by omega) (by omega) (x := Int32.ofInt 1) (y := (Int8.ofInt 9).toInt32) (by decide) (by decide)
  cases hr : numS u n 1 9 q with
  | inl f => exact rlrB_41 hJ1 hl0 _ cc (fun y1 M2 e2 q2 h3 => absurd (q2.2.1 f hr).1 h3) (fun y1 M2 e2 q2 h3 => QL_bad rfl (q2.2.1 f hr).2 (rfF_trans (rfF_of hF) q2.1) (e2.trans e1))
  | inr a =>
    have ha := numS_ok hr
    have ha2 : a.2 ≤ n := by rw [ha.2.2]; exact tE_le' hq
    refine rlrB_41 hJ1 hl0 _ cc (fun y1 M2 e2 q2 h3 => ?_) (fun y1 M2 e2 q2 h3 => absurd ((q2.2.2 a hr).1.symm.trans h3) (nI_nm1 (by omega)))
    obtain ⟨rfl, g5, g4, gF⟩ := q2.2.2 a hr
    exact rlrB_m3 hl0 hJ hB hI hH (tkF_trans hF gF) (e2.trans e1) ha2 g5 hc hi hw
theorem rlrB_m1 (hl0 : l.1.stackTraces = false) (hJ : ∀ e ∈ RK, M.2.2 e.1 e.2.1 = e.2.2) (hB : CB n u M) (hI : HI H) (hH : cHo 17 H M) {M1 : aM} (hF : tkF M M1) (e1 : M1.2.2 = M.2.2) {q : Nat} (hq : q ≤ n) (h5 : M1.1 2 5 = nI q) {i : Nat} (hc : H.te < 8) (hi : i < H.pe) : AW l (pI pg 82) (fcV M (QL 17 (bnd (newS u n H i q) fun b => bnd (numS u n 1 9 b.2) fun c => bnd (numS u n 1 99 c.2) fun d => bnd (endS u n d.2) fun e => .inr (addL H i b.1 c.1 d.1, e)) M)) 0 0 28 [(0, .ref 1), (1, .ref 17), (2, .int (nI i))] [] SHF M1 := by
  have hJ1 : ∀ e ∈ RK, M1.2.2 e.1 e.2.1 = e.2.2 := by rw [e1]; exact hJ
  have hB1 := CB_F hB hF
  have hH1 : cHo 17 H M1 := cH_R (by decide) hH (rfF_of hF)
  have hp6 := hI.pe
  have hw8 := hI.wo
  have cc := rnwB_c hl0 hJ1 hB1 hq h5 hI hH1 hi
  cases hr : newS u n H i q with
  | inl f => exact rlrB_28 hJ1 hl0 _ cc (fun y1 M2 e2 q2 h3 => absurd (q2.2.1 f hr).1 h3) (fun y1 M2 e2 q2 h3 => QL_bad rfl (q2.2.1 f hr).2 (rfF_trans (rfF_of hF) q2.1) (e2.trans e1))
  | inr a =>
    have ha := newS_ok hr
    have ha2 : a.2 ≤ n := by rw [ha.2.1]; exact tE_le' hq
    refine rlrB_28 hJ1 hl0 _ cc (fun y1 M2 e2 q2 h3 => ?_) (fun y1 M2 e2 q2 h3 => absurd ((q2.2.2 a hr).1.symm.trans h3) (nI_nm1 (by omega)))
    obtain ⟨rfl, g5, g4, gF⟩ := q2.2.2 a hr
    exact rlrB_m2 hl0 hJ hB hI hH (tkF_trans hF gF) (e2.trans e1) ha2 g5 hc hi ha.1
theorem rwoB_c (hl0 : l.1.stackTraces = false) (hJ : ∀ e ∈ RK, M.2.2 e.1 e.2.1 = e.2.2) (hB : CB n u M) (hp : p ≤ n) (hT : tkAt u n p M) (hI : HI H) (hH : cHo 17 H M) : AC l (pI pg 74) (fcV M (QL 17 (worS u n H p) M)) 0 0 [.ref 1, .ref 17] SHF M := by
  refine fw_of hl0 ⟨by decide +kernel, by decide +kernel, by decide +kernel⟩ rfl ?_
  have hp6 := hI.pe
  have hw8 := hI.wo
  have ht8 := hI.te
  have hq : tEe u n p ≤ n := tE_le' hp
  have h5 : M.1 2 5 = nI (tEe u n p) := hT.2.2
  have lt : M.1 17 1 < (Int8.ofInt 8).toInt32 ↔ H.wo < 8 := by rw [hH.wo, show (Int8.ofInt 8).toInt32 = nI 8 by decide, nI_ltI (by omega) (by decide)]
  by_cases hc : H.wo < 8
  · rw [worS, if_neg (by omega)]
    have cc := num_c hl0 hJ hB hq h5 (lo := 0) (hi := 23) (by decide) (by decide) (x := Int32.ofInt 0) (y := (Int8.ofInt 23).toInt32) (by decide) (by decide)
    have cc2 : M.1 17 1 < (Int8.ofInt 8).toInt32 := lt.mpr hc
    cases hr : numS u n 0 23 (tEe u n p) with
    | inl f => exact rwoB_0 hJ hl0 _ (fun _ => cc) (fun _ y1 M2 e2 q2 h3 => absurd (q2.2.1 f hr).1 h3) (fun _ y1 M2 e2 q2 h3 => QL_bad rfl (q2.2.1 f hr).2 q2.1 e2) (fun h => absurd cc2 h)
    | inr a =>
      have ha := numS_ok hr
      have ha2 : a.2 ≤ n := by rw [ha.2.2]; exact tE_le' hq
      refine rwoB_0 hJ hl0 _ (fun _ => cc) (fun _ y1 M2 e2 q2 h3 => ?_) (fun _ y1 M2 e2 q2 h3 => absurd ((q2.2.2 a hr).1.symm.trans h3) (nI_nm1 (by omega))) (fun h => absurd cc2 h)
      obtain ⟨rfl, g5, g4, gF⟩ := q2.2.2 a hr
      exact rwoB_m1 hl0 hJ hB hI hH gF e2 ha2 g5 hc ha.2.1
  · rw [worS, if_pos (by omega)]
    have cc2 : ¬ M.1 17 1 < (Int8.ofInt 8).toInt32 := fun h => hc (lt.mp h)
    exact rwoB_0 hJ hl0 (fun _ _ => True) (fun h => absurd h cc2) (fun h => absurd h cc2) (fun h => absurd h cc2) (fun _ => QL_ref (u := u) (n := n) (p := p) (k := 2) rfl (by decide) hT.1 rfF_rfl rfl)
theorem rlrB_c (hl0 : l.1.stackTraces = false) (hJ : ∀ e ∈ RK, M.2.2 e.1 e.2.1 = e.2.2) (hB : CB n u M) (hp : p ≤ n) (hT : tkAt u n p M) (hI : HI H) (hH : cHo 17 H M) : AC l (pI pg 82) (fcV M (QL 17 (leaS u n H p) M)) 0 0 [.ref 1, .ref 17] SHF M := by
  refine fw_of hl0 ⟨by decide +kernel, by decide +kernel, by decide +kernel⟩ rfl ?_
  have hp6 := hI.pe
  have hw8 := hI.wo
  have ht8 := hI.te
  have hq : tEe u n p ≤ n := tE_le' hp
  have h5 : M.1 2 5 = nI (tEe u n p) := hT.2.2
  have lt : M.1 17 2 < (Int8.ofInt 8).toInt32 ↔ H.te < 8 := by rw [hH.te, show (Int8.ofInt 8).toInt32 = nI 8 by decide, nI_ltI (by omega) (by decide)]
  by_cases hc : H.te < 8
  · rw [leaS, if_neg (by omega)]
    have cc := rpnB_c hl0 hJ hB hq h5 hI hH
    have cc2 : M.1 17 2 < (Int8.ofInt 8).toInt32 := lt.mpr hc
    cases hr : idS u n H.pe (tEe u n p) with
    | inl f => exact rlrB_0 hJ hl0 _ (fun _ => cc) (fun _ y1 M2 e2 q2 h3 => absurd (q2.2.1 f hr).1 h3) (fun _ y1 M2 e2 q2 h3 => QL_bad rfl (q2.2.1 f hr).2 q2.1 e2) (fun h => absurd cc2 h)
    | inr a =>
      have ha := idS_ok hr
      have ha2 : a.2 ≤ n := by rw [ha.2]; exact tE_le' hq
      refine rlrB_0 hJ hl0 _ (fun _ => cc) (fun _ y1 M2 e2 q2 h3 => ?_) (fun _ y1 M2 e2 q2 h3 => absurd ((q2.2.2 a hr).1.symm.trans h3) (nI_nm1 (by omega))) (fun h => absurd cc2 h)
      obtain ⟨rfl, g5, g4, gF⟩ := q2.2.2 a hr
      exact rlrB_m1 hl0 hJ hB hI hH gF e2 ha2 g5 hc ha.1
  · rw [leaS, if_pos (by omega)]
    have cc2 : ¬ M.1 17 2 < (Int8.ofInt 8).toInt32 := fun h => hc (lt.mp h)
    exact rlrB_0 hJ hl0 (fun _ _ => True) (fun h => absurd h cc2) (fun h => absurd h cc2) (fun h => absurd h cc2) (fun _ => QL_ref (u := u) (n := n) (p := p) (k := 2) rfl (by decide) hT.1 rfF_rfl rfl)
theorem rcaB_c (hl0 : l.1.stackTraces = false) (hJ : ∀ e ∈ RK, M.2.2 e.1 e.2.1 = e.2.2) (hB : CB n u M) (hp : p ≤ n) (hT : tkAt u n p M) (hI : HI H) (hH : cHo 17 H M) : AC l (pI pg 78) (fcV M (QL 17 (canS u n H p) M)) 0 0 [.ref 1, .ref 17] SHF M := by
  refine fw_of hl0 ⟨by decide +kernel, by decide +kernel, by decide +kernel⟩ rfl ?_
  exact rcaB_m0 hl0 hJ hB hI hH tkF_rfl rfl (tE_le' hp) hT.2.2
theorem rfoB_c (hl0 : l.1.stackTraces = false) (hJ : ∀ e ∈ RK, M.2.2 e.1 e.2.1 = e.2.2) (hB : CB n u M) (hp : p ≤ n) (hT : tkAt u n p M) (hI : HI H) (hH : cHo 17 H M) : AC l (pI pg 84) (fcV M (QL 17 (forS u n H p) M)) 0 0 [.ref 1, .ref 17] SHF M := by
  refine fw_of hl0 ⟨by decide +kernel, by decide +kernel, by decide +kernel⟩ rfl ?_
  have hf := hI.fo
  have hq : tEe u n p ≤ n := tE_le' hp
  have h5 : M.1 2 5 = nI (tEe u n p) := hT.2.2
  have z : M.1 17 3 = 0 ↔ H.fo = 0 := by
    rw [hH.fo]
    exact ⟨fun h => nI_injN (b := 0) (by omega) (by decide) h, fun h => by rw [h]; rfl⟩
  by_cases hc : H.fo = 0
  · rw [forS, if_neg (fun h => h hc)]
    have cc := num_c hl0 hJ hB hq h5 (lo := 1) (hi := 50) (by decide) (by decide) (x := Int32.ofInt 1) (y := (Int8.ofInt 50).toInt32) (by decide) (by decide)
    cases hr : numS u n 1 50 (tEe u n p) with
    | inl f => exact rfoB_0 hJ hl0 _ (fun _ => cc) (fun _ y1 M2 e2 q2 h3 => QL_bad rfl (q2.2.1 f hr).2 q2.1 e2) (fun _ y1 M2 e2 q2 h3 => absurd (q2.2.1 f hr).1 h3) (fun h => absurd (z.mpr hc) h)
    | inr a =>
      have ha := numS_ok hr
      have ha2 : a.2 ≤ n := by rw [ha.2.2]; exact tE_le' hq
      refine rfoB_0 hJ hl0 _ (fun _ => cc) (fun _ y1 M2 e2 q2 h3 => absurd ((q2.2.2 a hr).1.symm.trans h3) (nI_nm1 (by omega))) (fun _ y1 M2 e2 q2 h3 => ?_) (fun h => absurd (z.mpr hc) h)
      obtain ⟨rfl, g5, g4, gF⟩ := q2.2.2 a hr
      have hJ1 : ∀ e ∈ RK, M2.2.2 e.1 e.2.1 = e.2.2 := by rw [e2]; exact hJ
      have cc2 := rle_c hl0 hJ1 (CB_F hB gF) ha2 g5
      show AW l (pI pg 84) (fcV M (QL 17 (bnd (endS u n a.2) fun b => .inr (addF H a.1, b)) M)) 0 0 27 _ _ _ _
      cases hs : endS u n a.2 with
      | inl f => exact rfoB_27 hJ1 hl0 _ cc2 (fun y1 M3 e3 q3 h3 => QL_bad rfl (q3.2.1 f hs).2 (rfF_trans (rfF_of gF) q3.1) (e3.trans e2)) (fun y1 M3 e3 q3 h3 => absurd (q3.2.1 f hs).1 h3)
      | inr c =>
        refine rfoB_27 hJ1 hl0 _ cc2 (fun y1 M3 e3 q3 h3 => ?_) (fun y1 M3 e3 q3 h3 => ?_)
        · rw [(q3.2.2 c hs).1] at h3
          exact absurd h3 (by decide)
        · have k := q3.2.2 c hs
          have hH3 : cHo 17 H M3 := cH_R (by decide) (cH_R (by decide) hH (rfF_of gF)) q3.1
          refine QL_ok (M1 := M3) (a := (addF H a.1, c)) (by decide) rfl (tkF_trans gF k.2.2) ⟨fun b j hb => ?_, rfl⟩ (cHo.of (pe := hH3.pe) (wo := hH3.wo) (te := hH3.te) (fo := rfl) (ho := hH3.ho) (ch := hH3.ch) (cd := hH3.cd) (ml := hH3.ml) (be := hH3.be) (le := hH3.le) (dr := hH3.dr) (sk := hH3.sk) (t0 := hH3.t0) (t1 := hH3.t1) (t2 := hH3.t2) (t3 := hH3.t3)) k.2.1 (e3.trans e2) rfl
          rw [set_1, if_neg (by omega)]
  · rw [forS, if_pos hc]
    have cc2 : ¬ M.1 17 3 = 0 := fun h => hc (z.mp h)
    exact rfoB_0 hJ hl0 (fun _ _ => True) (fun h => absurd h cc2) (fun h => absurd h cc2) (fun h => absurd h cc2) (fun _ => QL_ref (u := u) (n := n) (p := p) (k := 5) rfl (by decide) hT.1 rfF_rfl rfl)
theorem rpeB_e (hl0 : l.1.stackTraces = false) (hJ : ∀ e ∈ RK, M.2.2 e.1 e.2.1 = e.2.2) (hI : HI H) (hH : cHo 17 H M) {M1 : aM} (hF : tkF M M1) (e1 : M1.2.2 = M.2.2) {q : Nat} (hT : tkAt u n q M1) {x y : Nat} (hc : H.pe < 6) : AW l (pI pg 65) (fcV M (QL 17 (bnd (endS u n q) fun c => .inr (addP H x y, c)) M)) 0 0 70 [(0, .ref 1), (1, .ref 17), (2, .int (nI x)), (3, .int (nI y))] [] SHF M1 := by
  have hJ1 : ∀ e ∈ RK, M1.2.2 e.1 e.2.1 = e.2.2 := by rw [e1]; exact hJ
  have cc := ile_c hl0 hJ1 hT
  cases hr : endS u n q with
  | inl f =>
    refine rpeB_70 hJ1 hl0 (QE (endS u n q) M1) cc (fun y1 M2 e2 q2 h3 => ?_) (fun _ _ _ => True) (fun y1 M2 e2 q2 h3 => absurd (q2.2.1 f hr).1 h3) (fun y1 M2 e2 q2 h3 => absurd (q2.2.1 f hr).1 h3)
    exact QL_bad rfl (q2.2.1 f hr).2 (rfF_trans (rfF_of hF) q2.1) (e2.trans e1)
  | inr c =>
    refine rpeB_70 hJ1 hl0 (QE (endS u n q) M1) cc (fun y1 M2 e2 q2 h3 => ?_) (fun _ M2 => QHB (addP H x y) M2) (fun y1 M2 e2 q2 h3 => ?_) (fun y1 M2 e2 q2 h3 M3 e3 q3 => ?_)
    · rw [(q2.2.2 c hr).1] at h3
      exact absurd h3 (by decide)
    · exact adpB_c hl0 (by rw [e2, e1]; exact hJ) (cH_R (by decide) (cH_R (by decide) hH (rfF_of hF)) q2.1) hc
    · exact QL_ok (by decide) rfl (tkF_trans hF (q2.2.2 c hr).2.2) q3.2 q3.1 (q2.2.2 c hr).2.1 (e2.trans e1) e3
theorem rpeB_m (hl0 : l.1.stackTraces = false) (hJ : ∀ e ∈ RK, M.2.2 e.1 e.2.1 = e.2.2) (hB : CB n u M) (hI : HI H) (hH : cHo 17 H M) {M1 : aM} (hF : tkF M M1) (e1 : M1.2.2 = M.2.2) {q : Nat} (hq : q ≤ n) (h5 : M1.1 2 5 = nI q) {x : Nat} (hc : H.pe < 6) : AW l (pI pg 65) (fcV M (QL 17 (bnd (drS u n H q) fun b => bnd (endS u n b.2) fun c => .inr (addP H x b.1, c)) M)) 0 0 32 [(0, .ref 1), (1, .ref 17), (2, .int (nI x)), (3, .int (nI 0))] [] SHF M1 := by
  have hJ1 : ∀ e ∈ RK, M1.2.2 e.1 e.2.1 = e.2.2 := by rw [e1]; exact hJ
  have hB1 := CB_F hB hF
  have hH1 : cHo 17 H M1 := cH_R (by decide) hH (rfF_of hF)
  have hch := hI.ch
  have q1e : tEe u n q ≤ n := tE_le' hq
  cases hw : wdAt u n wDrawn q with
  | false =>
    rw [drS, if_neg (by rw [hw]; decide)]
    refine rpeB_32 hJ1 hl0 (QA u n q M1) (adv_c hl0 (rk_rt hJ1 rfl) hB1 hq h5) (fun M2 => QW (wdAt u n wDrawn q) M2) (fun M2 e2 q2 => wdDrawn_c hl0 (by rw [e2]; exact hJ1) (CB_F hB1 q2.2) hq q2.1) (fun M2 e2 q2 y3 M3 e3 q3 h5 => ?_) (fun _ _ _ _ _ => True) (fun M2 e2 q2 y3 M3 e3 q3 h5 => ?_) (fun _ _ _ _ _ _ => True) (fun M2 e2 q2 y3 M3 e3 q3 h5 => ?_) (fun M2 e2 q2 y3 M3 e3 q3 h5 => ?_) (fun M2 e2 q2 y3 M3 e3 q3 h5 => ?_)
    · obtain ⟨rfl, _⟩ := q3
      exact rpeB_e hl0 hJ hI hH (tkF_trans hF q2.2) (e2.trans e1) q2.1 hc
    all_goals exact absurd (q3.2.trans (by rw [hw]; rfl)) h5
  | true =>
    rw [drS, if_pos hw]
    have no : ∀ {y3 : Int32} {M2 M3 : aM}, QW (wdAt u n wDrawn q) M2 y3 M3 → ¬ y3 = 0 := fun {y3 M2 M3} q3 e => by
      rw [q3.2, hw] at e
      exact absurd e (by decide)
    cases hr : chS u n H (tEe u n q) with
    | inl f =>
      refine rpeB_32 hJ1 hl0 (QA u n q M1) (adv_c hl0 (rk_rt hJ1 rfl) hB1 hq h5) (fun M2 => QW (wdAt u n wDrawn q) M2) (fun M2 e2 q2 => wdDrawn_c hl0 (by rw [e2]; exact hJ1) (CB_F hB1 q2.2) hq q2.1) (fun M2 e2 q2 y3 M3 e3 q3 h5 => absurd h5 (no q3)) (fun _ _ M3 => RN (chS u n H (tEe u n q)) (tS u n (tEe u n q)) M3) (fun M2 e2 q2 y3 M3 e3 q3 h5 => ?_) (fun _ _ _ _ _ _ => True) (fun M2 e2 q2 y3 M3 e3 q3 h5 y7 M7 e7 q7 h9 => absurd (q7.2.1 f hr).1 h9) (fun M2 e2 q2 y3 M3 e3 q3 h5 y7 M7 e7 q7 h9 => absurd (q7.2.1 f hr).1 h9) (fun M2 e2 q2 y3 M3 e3 q3 h5 y7 M7 e7 q7 h9 => ?_)
      · obtain ⟨rfl, _⟩ := q3
        exact rchB_c hl0 (by rw [e2]; exact hJ1) (CB_F hB1 q2.2) q1e q2.1.2.2 hI (cH_R (by decide) hH1 (rfF_of q2.2))
      · obtain ⟨rfl, _⟩ := q3
        exact QL_bad rfl (q7.2.1 f hr).2 (rfF_trans (rfF_of (tkF_trans hF q2.2)) q7.1) (e7.trans (e2.trans e1))
    | inr a =>
      have ha := chS_ok hr
      have ha2 : a.2 ≤ n := by rw [ha.2]; exact tE_le' q1e
      refine rpeB_32 hJ1 hl0 (QA u n q M1) (adv_c hl0 (rk_rt hJ1 rfl) hB1 hq h5) (fun M2 => QW (wdAt u n wDrawn q) M2) (fun M2 e2 q2 => wdDrawn_c hl0 (by rw [e2]; exact hJ1) (CB_F hB1 q2.2) hq q2.1) (fun M2 e2 q2 y3 M3 e3 q3 h5 => absurd h5 (no q3)) (fun _ _ M3 => RN (chS u n H (tEe u n q)) (tS u n (tEe u n q)) M3) (fun M2 e2 q2 y3 M3 e3 q3 h5 => ?_) (fun _ _ _ _ M7 => QA u n a.2 M7) (fun M2 e2 q2 y3 M3 e3 q3 h5 y7 M7 e7 q7 h9 => ?_) (fun M2 e2 q2 y3 M3 e3 q3 h5 y7 M7 e7 q7 h9 M10 e10 q10 => ?_) (fun M2 e2 q2 y3 M3 e3 q3 h5 y7 M7 e7 q7 h9 => absurd ((q7.2.2 a hr).1.symm.trans h9) (nI_nm1 (by omega)))
      · obtain ⟨rfl, _⟩ := q3
        exact rchB_c hl0 (by rw [e2]; exact hJ1) (CB_F hB1 q2.2) q1e q2.1.2.2 hI (cH_R (by decide) hH1 (rfF_of q2.2))
      · obtain ⟨rfl, _⟩ := q3
        have g := q7.2.2 a hr
        exact adv_c hl0 (rk_rt hJ1 (e7.trans e2)) (CB_F (CB_F hB1 q2.2) g.2.2.2) ha2 g.2.1
      · obtain ⟨rfl, _⟩ := q3
        obtain ⟨rfl, g5, g4, gF⟩ := q7.2.2 a hr
        exact rpeB_e hl0 hJ hI hH (tkF_trans (tkF_trans (tkF_trans hF q2.2) gF) q10.2) (e10.trans (e7.trans (e2.trans e1))) q10.1 hc
theorem rpeB_c (hl0 : l.1.stackTraces = false) (hJ : ∀ e ∈ RK, M.2.2 e.1 e.2.1 = e.2.2) (hB : CB n u M) (hp : p ≤ n) (hT : tkAt u n p M) (hI : HI H) (hH : cHo 17 H M) : AC l (pI pg 65) (fcV M (QL 17 (perS u n H p) M)) 0 0 [.ref 1, .ref 17] SHF M := by
  refine fw_of hl0 ⟨by decide +kernel, by decide +kernel, by decide +kernel⟩ rfl ?_
  have hp6 := hI.pe
  have hw8 := hI.wo
  have ht8 := hI.te
  have hq : tEe u n p ≤ n := tE_le' hp
  have h5 : M.1 2 5 = nI (tEe u n p) := hT.2.2
  have lt : M.1 17 0 < (Int8.ofInt 6).toInt32 ↔ H.pe < 6 := by rw [hH.pe, show (Int8.ofInt 6).toInt32 = nI 6 by decide, nI_ltI (by omega) (by decide)]
  by_cases hc : H.pe < 6
  · rw [perS, if_neg (by omega)]
    have cc := num_c hl0 hJ hB hq h5 (lo := 0) (hi := 24) (by decide) (by decide) (x := Int32.ofInt 0) (y := (Int8.ofInt 24).toInt32) (by decide) (by decide)
    have cc2 : M.1 17 0 < (Int8.ofInt 6).toInt32 := lt.mpr hc
    cases hr : numS u n 0 24 (tEe u n p) with
    | inl f => exact rpeB_0 hJ hl0 _ (fun _ => cc) (fun _ y1 M2 e2 q2 h3 => absurd (q2.2.1 f hr).1 h3) (fun _ y1 M2 e2 q2 h3 => QL_bad rfl (q2.2.1 f hr).2 q2.1 e2) (fun h => absurd cc2 h)
    | inr a =>
      have ha := numS_ok hr
      have ha2 : a.2 ≤ n := by rw [ha.2.2]; exact tE_le' hq
      refine rpeB_0 hJ hl0 _ (fun _ => cc) (fun _ y1 M2 e2 q2 h3 => ?_) (fun _ y1 M2 e2 q2 h3 => absurd ((q2.2.2 a hr).1.symm.trans h3) (nI_nm1 (by omega))) (fun h => absurd cc2 h)
      obtain ⟨rfl, g5, g4, gF⟩ := q2.2.2 a hr
      exact rpeB_m hl0 hJ hB hI hH gF e2 ha2 g5 hc
  · rw [perS, if_pos (by omega)]
    have cc2 : ¬ M.1 17 0 < (Int8.ofInt 6).toInt32 := fun h => hc (lt.mp h)
    exact rpeB_0 hJ hl0 (fun _ _ => True) (fun h => absurd h cc2) (fun h => absurd h cc2) (fun h => absurd h cc2) (fun _ => QL_ref (u := u) (n := n) (p := p) (k := 2) rfl (by decide) hT.1 rfF_rfl rfl)
theorem rliB_100e (hl0 : l.1.stackTraces = false) (hJ : ∀ e ∈ RK, M.2.2 e.1 e.2.1 = e.2.2) (hB : CB n u M) (hp : p ≤ n) (hT : tkAt u n p M) (hI : HI H) (hH : cHo 17 H M) : AW l (pI pg 52) (fcV M (QL 17 (.inl (1, tS u n p)) M)) 0 0 100 [(0, .ref 1), (1, .ref 17)] [] SHF M := rliB_100 hJ hl0 (QL_ref (u := u) (n := n) (p := p) (k := 1) rfl (by decide) hT.1 rfF_rfl rfl)
theorem rliB_80e (hl0 : l.1.stackTraces = false) (hJ : ∀ e ∈ RK, M.2.2 e.1 e.2.1 = e.2.2) (hB : CB n u M) (hp : p ≤ n) (hT : tkAt u n p M) (hI : HI H) (hH : cHo 17 H M) : AW l (pI pg 52) (fcV M (QL 17 (if wdAt u n wForget p = true then forS u n H p else .inl (1, tS u n p)) M)) 0 0 80 [(0, .ref 1), (1, .ref 17)] [] SHF M := by
  cases hw : wdAt u n wForget p with
  | true =>
    rw [if_pos rfl]
    refine rliB_80 hJ hl0 _ (wdForget_c hl0 hJ hB hp hT) (fun y1 M1 e1 q1 h3 => ?_) (fun _ M1 => QL 17 (forS u n H p) M1) (fun y1 M1 e1 q1 h3 => ?_) (fun y1 M1 e1 q1 h3 M5 e5 q5 => ?_)
    · rw [q1.2, hw] at h3
      exact absurd h3 (by decide)
    · obtain ⟨rfl, _⟩ := q1
      exact rfoB_c hl0 hJ hB hp hT hI hH
    · obtain ⟨rfl, _⟩ := q1
      exact ⟨rfl, e5, rfl, q5⟩
  | false =>
    rw [if_neg (by decide)]
    refine rliB_80 hJ hl0 _ (wdForget_c hl0 hJ hB hp hT) (fun y1 M1 e1 q1 h3 => ?_) (fun _ _ _ => True) (fun y1 M1 e1 q1 h3 => ?_) (fun y1 M1 e1 q1 h3 => ?_)
    · obtain ⟨rfl, _⟩ := q1
      exact rliB_100e hl0 hJ hB hp hT hI hH
    all_goals exact absurd (q1.2.trans (by rw [hw]; rfl)) h3
theorem rliB_60e (hl0 : l.1.stackTraces = false) (hJ : ∀ e ∈ RK, M.2.2 e.1 e.2.1 = e.2.2) (hB : CB n u M) (hp : p ≤ n) (hT : tkAt u n p M) (hI : HI H) (hH : cHo 17 H M) : AW l (pI pg 52) (fcV M (QL 17 (if wdAt u n wLearn p = true then leaS u n H p else if wdAt u n wForget p = true then forS u n H p else .inl (1, tS u n p)) M)) 0 0 60 [(0, .ref 1), (1, .ref 17)] [] SHF M := by
  cases hw : wdAt u n wLearn p with
  | true =>
    rw [if_pos rfl]
    refine rliB_60 hJ hl0 _ (wdLearn_c hl0 hJ hB hp hT) (fun y1 M1 e1 q1 h3 => ?_) (fun _ M1 => QL 17 (leaS u n H p) M1) (fun y1 M1 e1 q1 h3 => ?_) (fun y1 M1 e1 q1 h3 M5 e5 q5 => ?_)
    · rw [q1.2, hw] at h3
      exact absurd h3 (by decide)
    · obtain ⟨rfl, _⟩ := q1
      exact rlrB_c hl0 hJ hB hp hT hI hH
    · obtain ⟨rfl, _⟩ := q1
      exact ⟨rfl, e5, rfl, q5⟩
  | false =>
    rw [if_neg (by decide)]
    refine rliB_60 hJ hl0 _ (wdLearn_c hl0 hJ hB hp hT) (fun y1 M1 e1 q1 h3 => ?_) (fun _ _ _ => True) (fun y1 M1 e1 q1 h3 => ?_) (fun y1 M1 e1 q1 h3 => ?_)
    · obtain ⟨rfl, _⟩ := q1
      exact rliB_80e hl0 hJ hB hp hT hI hH
    all_goals exact absurd (q1.2.trans (by rw [hw]; rfl)) h3
theorem rliB_40e (hl0 : l.1.stackTraces = false) (hJ : ∀ e ∈ RK, M.2.2 e.1 e.2.1 = e.2.2) (hB : CB n u M) (hp : p ≤ n) (hT : tkAt u n p M) (hI : HI H) (hH : cHo 17 H M) : AW l (pI pg 52) (fcV M (QL 17 (if wdAt u n wCan p = true then canS u n H p else if wdAt u n wLearn p = true then leaS u n H p else if wdAt u n wForget p = true then forS u n H p else .inl (1, tS u n p)) M)) 0 0 40 [(0, .ref 1), (1, .ref 17)] [] SHF M := by
  cases hw : wdAt u n wCan p with
  | true =>
    rw [if_pos rfl]
    refine rliB_40 hJ hl0 _ (wdCan_c hl0 hJ hB hp hT) (fun y1 M1 e1 q1 h3 => ?_) (fun _ M1 => QL 17 (canS u n H p) M1) (fun y1 M1 e1 q1 h3 => ?_) (fun y1 M1 e1 q1 h3 M5 e5 q5 => ?_)
    · rw [q1.2, hw] at h3
      exact absurd h3 (by decide)
    · obtain ⟨rfl, _⟩ := q1
      exact rcaB_c hl0 hJ hB hp hT hI hH
    · obtain ⟨rfl, _⟩ := q1
      exact ⟨rfl, e5, rfl, q5⟩
  | false =>
    rw [if_neg (by decide)]
    refine rliB_40 hJ hl0 _ (wdCan_c hl0 hJ hB hp hT) (fun y1 M1 e1 q1 h3 => ?_) (fun _ _ _ => True) (fun y1 M1 e1 q1 h3 => ?_) (fun y1 M1 e1 q1 h3 => ?_)
    · obtain ⟨rfl, _⟩ := q1
      exact rliB_60e hl0 hJ hB hp hT hI hH
    all_goals exact absurd (q1.2.trans (by rw [hw]; rfl)) h3
theorem rliB_20e (hl0 : l.1.stackTraces = false) (hJ : ∀ e ∈ RK, M.2.2 e.1 e.2.1 = e.2.2) (hB : CB n u M) (hp : p ≤ n) (hT : tkAt u n p M) (hI : HI H) (hH : cHo 17 H M) : AW l (pI pg 52) (fcV M (QL 17 (if wdAt u n wWork p = true then worS u n H p else if wdAt u n wCan p = true then canS u n H p else if wdAt u n wLearn p = true then leaS u n H p else if wdAt u n wForget p = true then forS u n H p else .inl (1, tS u n p)) M)) 0 0 20 [(0, .ref 1), (1, .ref 17)] [] SHF M := by
  cases hw : wdAt u n wWork p with
  | true =>
    rw [if_pos rfl]
    refine rliB_20 hJ hl0 _ (wdWork_c hl0 hJ hB hp hT) (fun y1 M1 e1 q1 h3 => ?_) (fun _ M1 => QL 17 (worS u n H p) M1) (fun y1 M1 e1 q1 h3 => ?_) (fun y1 M1 e1 q1 h3 M5 e5 q5 => ?_)
    · rw [q1.2, hw] at h3
      exact absurd h3 (by decide)
    · obtain ⟨rfl, _⟩ := q1
      exact rwoB_c hl0 hJ hB hp hT hI hH
    · obtain ⟨rfl, _⟩ := q1
      exact ⟨rfl, e5, rfl, q5⟩
  | false =>
    rw [if_neg (by decide)]
    refine rliB_20 hJ hl0 _ (wdWork_c hl0 hJ hB hp hT) (fun y1 M1 e1 q1 h3 => ?_) (fun _ _ _ => True) (fun y1 M1 e1 q1 h3 => ?_) (fun y1 M1 e1 q1 h3 => ?_)
    · obtain ⟨rfl, _⟩ := q1
      exact rliB_40e hl0 hJ hB hp hT hI hH
    all_goals exact absurd (q1.2.trans (by rw [hw]; rfl)) h3
theorem rliB_0e (hl0 : l.1.stackTraces = false) (hJ : ∀ e ∈ RK, M.2.2 e.1 e.2.1 = e.2.2) (hB : CB n u M) (hp : p ≤ n) (hT : tkAt u n p M) (hI : HI H) (hH : cHo 17 H M) : AW l (pI pg 52) (fcV M (QL 17 (if wdAt u n wPerson p = true then perS u n H p else if wdAt u n wWork p = true then worS u n H p else if wdAt u n wCan p = true then canS u n H p else if wdAt u n wLearn p = true then leaS u n H p else if wdAt u n wForget p = true then forS u n H p else .inl (1, tS u n p)) M)) 0 0 0 [(0, .ref 1), (1, .ref 17)] [] SHF M := by
  cases hw : wdAt u n wPerson p with
  | true =>
    rw [if_pos rfl]
    refine rliB_0 hJ hl0 _ (wdPerson_c hl0 hJ hB hp hT) (fun y1 M1 e1 q1 h3 => ?_) (fun _ M1 => QL 17 (perS u n H p) M1) (fun y1 M1 e1 q1 h3 => ?_) (fun y1 M1 e1 q1 h3 M5 e5 q5 => ?_)
    · rw [q1.2, hw] at h3
      exact absurd h3 (by decide)
    · obtain ⟨rfl, _⟩ := q1
      exact rpeB_c hl0 hJ hB hp hT hI hH
    · obtain ⟨rfl, _⟩ := q1
      exact ⟨rfl, e5, rfl, q5⟩
  | false =>
    rw [if_neg (by decide)]
    refine rliB_0 hJ hl0 _ (wdPerson_c hl0 hJ hB hp hT) (fun y1 M1 e1 q1 h3 => ?_) (fun _ _ _ => True) (fun y1 M1 e1 q1 h3 => ?_) (fun y1 M1 e1 q1 h3 => ?_)
    · obtain ⟨rfl, _⟩ := q1
      exact rliB_20e hl0 hJ hB hp hT hI hH
    all_goals exact absurd (q1.2.trans (by rw [hw]; rfl)) h3
theorem rliB_c (hl0 : l.1.stackTraces = false) (hJ : ∀ e ∈ RK, M.2.2 e.1 e.2.1 = e.2.2) (hB : CB n u M) (hp : p ≤ n) (hT : tkAt u n p M) (hI : HI H) (hH : cHo 17 H M) : AC l (pI pg 52) (fcV M (QL 17 (linS u n H p) M)) 0 0 [.ref 1, .ref 17] SHF M := by
  refine fw_of hl0 ⟨by decide +kernel, by decide +kernel, by decide +kernel⟩ rfl ?_
  exact rliB_0e hl0 hJ hB hp hT hI hH
theorem fil20_c (hl0 : l.1.stackTraces = false) {x : Int32} : AC l (pI pg 12) (fcV M (fun M' => (∀ k, k < 6 → M'.1 20 k = x) ∧ (∀ b k, b ≠ 20 → M'.1 b k = M.1 b k) ∧ M'.2.1 = M.2.1)) 0 0 [.ref 20, .int x] SHF M := by
  refine fw_of hl0 ⟨by decide +kernel, by decide +kernel, by decide +kernel⟩ rfl ?_
  refine fil20_0 hl0 ?_
  have loop : ∀ (d i : Nat) (M1 : aM), i + d = 6 → M1.2.2 = M.2.2 → M1.2.1 = M.2.1 → (∀ k, k < i → M1.1 20 k = x) → (∀ b k, b ≠ 20 → M1.1 b k = M.1 b k) → AW l (pI pg 12) (fcV M (fun M' => (∀ k, k < 6 → M'.1 20 k = x) ∧ (∀ b k, b ≠ 20 → M'.1 b k = M.1 b k) ∧ M'.2.1 = M.2.1)) 0 0 5 [(0, .ref 20), (1, .int x), (2, .int (nI i)), (3, .int (Int32.ofNat 6))] [] SHF M1 := by
    intro d
    induction d with
    | zero =>
      intro i M1 hi e2 e3 h1 h2
      have hi2 : i = 6 := by omega
      subst hi2
      exact fil20_5 hl0 (fun _ => ⟨rfl, e2, rfl, h1, h2, e3⟩) (fun h => absurd (show (Int32.ofNat 6 : Int32) ≤ nI 6 by decide) h) (fun h => absurd (show (Int32.ofNat 6 : Int32) ≤ nI 6 by decide) h)
    | succ d ih =>
      intro i M1 hi e2 e3 h1 h2
      refine fil20_5 hl0 (fun h => ?_) (fun _ => vp_in_nI (by omega) (by decide)) (fun _ => ?_)
      · exact ge_no (a := i) (b := 6) (by omega) (by decide) h
      · have e1 : nI i + Int32.ofInt 1 = nI (i + 1) := nI_1 _
        rw [e1, nI_clamp (by omega)]
        refine ih (i + 1) _ (by omega) e2 e3 (fun k hk => ?_) (fun b k hb => ?_)
        · rw [set_1, if_pos rfl]
          by_cases e : k = i
          · rw [if_pos e]
          · rw [if_neg e]
            exact h1 k (by omega)
        · rw [set_1, if_neg hb]
          exact h2 b k hb
  exact loop 6 0 M (by omega) rfl rfl (fun k hk => absurd hk (Nat.not_lt_zero _)) (fun _ _ _ => rfl)
theorem fil21_c (hl0 : l.1.stackTraces = false) {x : Int32} : AC l (pI pg 12) (fcV M (fun M' => (∀ k, k < 6 → M'.1 21 k = x) ∧ (∀ b k, b ≠ 21 → M'.1 b k = M.1 b k) ∧ M'.2.1 = M.2.1)) 0 0 [.ref 21, .int x] SHF M := by
  refine fw_of hl0 ⟨by decide +kernel, by decide +kernel, by decide +kernel⟩ rfl ?_
  refine fil21_0 hl0 ?_
  have loop : ∀ (d i : Nat) (M1 : aM), i + d = 6 → M1.2.2 = M.2.2 → M1.2.1 = M.2.1 → (∀ k, k < i → M1.1 21 k = x) → (∀ b k, b ≠ 21 → M1.1 b k = M.1 b k) → AW l (pI pg 12) (fcV M (fun M' => (∀ k, k < 6 → M'.1 21 k = x) ∧ (∀ b k, b ≠ 21 → M'.1 b k = M.1 b k) ∧ M'.2.1 = M.2.1)) 0 0 5 [(0, .ref 21), (1, .int x), (2, .int (nI i)), (3, .int (Int32.ofNat 6))] [] SHF M1 := by
    intro d
    induction d with
    | zero =>
      intro i M1 hi e2 e3 h1 h2
      have hi2 : i = 6 := by omega
      subst hi2
      exact fil21_5 hl0 (fun _ => ⟨rfl, e2, rfl, h1, h2, e3⟩) (fun h => absurd (show (Int32.ofNat 6 : Int32) ≤ nI 6 by decide) h) (fun h => absurd (show (Int32.ofNat 6 : Int32) ≤ nI 6 by decide) h)
    | succ d ih =>
      intro i M1 hi e2 e3 h1 h2
      refine fil21_5 hl0 (fun h => ?_) (fun _ => vp_in_nI (by omega) (by decide)) (fun _ => ?_)
      · exact ge_no (a := i) (b := 6) (by omega) (by decide) h
      · have e1 : nI i + Int32.ofInt 1 = nI (i + 1) := nI_1 _
        rw [e1, nI_clamp (by omega)]
        refine ih (i + 1) _ (by omega) e2 e3 (fun k hk => ?_) (fun b k hb => ?_)
        · rw [set_1, if_pos rfl]
          by_cases e : k = i
          · rw [if_pos e]
          · rw [if_neg e]
            exact h1 k (by omega)
        · rw [set_1, if_neg hb]
          exact h2 b k hb
  exact loop 6 0 M (by omega) rfl rfl (fun k hk => absurd hk (Nat.not_lt_zero _)) (fun _ _ _ => rfl)
theorem fil24_c (hl0 : l.1.stackTraces = false) {x : Int32} : AC l (pI pg 12) (fcV M (fun M' => (∀ k, k < 8 → M'.1 24 k = x) ∧ (∀ b k, b ≠ 24 → M'.1 b k = M.1 b k) ∧ M'.2.1 = M.2.1)) 0 0 [.ref 24, .int x] SHF M := by
  refine fw_of hl0 ⟨by decide +kernel, by decide +kernel, by decide +kernel⟩ rfl ?_
  refine fil24_0 hl0 ?_
  have loop : ∀ (d i : Nat) (M1 : aM), i + d = 8 → M1.2.2 = M.2.2 → M1.2.1 = M.2.1 → (∀ k, k < i → M1.1 24 k = x) → (∀ b k, b ≠ 24 → M1.1 b k = M.1 b k) → AW l (pI pg 12) (fcV M (fun M' => (∀ k, k < 8 → M'.1 24 k = x) ∧ (∀ b k, b ≠ 24 → M'.1 b k = M.1 b k) ∧ M'.2.1 = M.2.1)) 0 0 5 [(0, .ref 24), (1, .int x), (2, .int (nI i)), (3, .int (Int32.ofNat 8))] [] SHF M1 := by
    intro d
    induction d with
    | zero =>
      intro i M1 hi e2 e3 h1 h2
      have hi2 : i = 8 := by omega
      subst hi2
      exact fil24_5 hl0 (fun _ => ⟨rfl, e2, rfl, h1, h2, e3⟩) (fun h => absurd (show (Int32.ofNat 8 : Int32) ≤ nI 8 by decide) h) (fun h => absurd (show (Int32.ofNat 8 : Int32) ≤ nI 8 by decide) h)
    | succ d ih =>
      intro i M1 hi e2 e3 h1 h2
      refine fil24_5 hl0 (fun h => ?_) (fun _ => vp_in_nI (by omega) (by decide)) (fun _ => ?_)
      · exact ge_no (a := i) (b := 8) (by omega) (by decide) h
      · have e1 : nI i + Int32.ofInt 1 = nI (i + 1) := nI_1 _
        rw [e1, nI_clamp (by omega)]
        refine ih (i + 1) _ (by omega) e2 e3 (fun k hk => ?_) (fun b k hb => ?_)
        · rw [set_1, if_pos rfl]
          by_cases e : k = i
          · rw [if_pos e]
          · rw [if_neg e]
            exact h1 k (by omega)
        · rw [set_1, if_neg hb]
          exact h2 b k hb
  exact loop 8 0 M (by omega) rfl rfl (fun k hk => absurd hk (Nat.not_lt_zero _)) (fun _ _ _ => rfl)
theorem fil25_c (hl0 : l.1.stackTraces = false) {x : Int32} : AC l (pI pg 12) (fcV M (fun M' => (∀ k, k < 48 → M'.1 25 k = x) ∧ (∀ b k, b ≠ 25 → M'.1 b k = M.1 b k) ∧ M'.2.1 = M.2.1)) 0 0 [.ref 25, .int x] SHF M := by
  refine fw_of hl0 ⟨by decide +kernel, by decide +kernel, by decide +kernel⟩ rfl ?_
  refine fil25_0 hl0 ?_
  have loop : ∀ (d i : Nat) (M1 : aM), i + d = 48 → M1.2.2 = M.2.2 → M1.2.1 = M.2.1 → (∀ k, k < i → M1.1 25 k = x) → (∀ b k, b ≠ 25 → M1.1 b k = M.1 b k) → AW l (pI pg 12) (fcV M (fun M' => (∀ k, k < 48 → M'.1 25 k = x) ∧ (∀ b k, b ≠ 25 → M'.1 b k = M.1 b k) ∧ M'.2.1 = M.2.1)) 0 0 5 [(0, .ref 25), (1, .int x), (2, .int (nI i)), (3, .int (Int32.ofNat 48))] [] SHF M1 := by
    intro d
    induction d with
    | zero =>
      intro i M1 hi e2 e3 h1 h2
      have hi2 : i = 48 := by omega
      subst hi2
      exact fil25_5 hl0 (fun _ => ⟨rfl, e2, rfl, h1, h2, e3⟩) (fun h => absurd (show (Int32.ofNat 48 : Int32) ≤ nI 48 by decide) h) (fun h => absurd (show (Int32.ofNat 48 : Int32) ≤ nI 48 by decide) h)
    | succ d ih =>
      intro i M1 hi e2 e3 h1 h2
      refine fil25_5 hl0 (fun h => ?_) (fun _ => vp_in_nI (by omega) (by decide)) (fun _ => ?_)
      · exact ge_no (a := i) (b := 48) (by omega) (by decide) h
      · have e1 : nI i + Int32.ofInt 1 = nI (i + 1) := nI_1 _
        rw [e1, nI_clamp (by omega)]
        refine ih (i + 1) _ (by omega) e2 e3 (fun k hk => ?_) (fun b k hb => ?_)
        · rw [set_1, if_pos rfl]
          by_cases e : k = i
          · rw [if_pos e]
          · rw [if_neg e]
            exact h1 k (by omega)
        · rw [set_1, if_neg hb]
          exact h2 b k hb
  exact loop 48 0 M (by omega) rfl rfl (fun k hk => absurd hk (Nat.not_lt_zero _)) (fun _ _ _ => rfl)
theorem cleB_c (hl0 : l.1.stackTraces = false) (hJ : ∀ e ∈ RK, M.2.2 e.1 e.2.1 = e.2.2) : AC l (pI pg 46) (fcV M (QHB HS0 M)) 0 0 [.ref 17] SHF M := by
  refine fw_of hl0 ⟨by decide +kernel, by decide +kernel, by decide +kernel⟩ rfl ?_
  refine cleB_0 hJ hl0 _ (fil20_c hl0) (fun M1 M' => (∀ k, k < 6 → M'.1 21 k = Int32.ofInt 0) ∧ (∀ b k, b ≠ 21 → M'.1 b k = M1.1 b k) ∧ M'.2.1 = M1.2.1) (fun M1 e1 q1 => fil21_c hl0) (fun _ M3 M' => (∀ k, k < 8 → M'.1 24 k = Int32.ofInt 0) ∧ (∀ b k, b ≠ 24 → M'.1 b k = M3.1 b k) ∧ M'.2.1 = M3.2.1) (fun M1 e1 q1 M3 e3 q3 => fil24_c hl0) (fun _ _ M5 M' => (∀ k, k < 48 → M'.1 25 k = Int32.ofInt 0) ∧ (∀ b k, b ≠ 25 → M'.1 b k = M5.1 b k) ∧ M'.2.1 = M5.2.1) (fun M1 e1 q1 M3 e3 q3 M5 e5 q5 => fil25_c hl0) (fun M1 e1 q1 M3 e3 q3 M5 e5 q5 M7 e7 q7 => ?_)
  refine ⟨rfl, e7.trans (e5.trans (e3.trans e1)), rfl, ?_, ?_⟩
  · refine ⟨?_, ?_, ?_, ?_, fun i hi => absurd hi (Nat.not_lt_zero _), fun i hi => absurd hi (Nat.not_lt_zero _), fun i hi => ?_, fun i hi => ?_, fun i hi => absurd hi (Nat.not_lt_zero _), fun i hi => absurd hi (Nat.not_lt_zero _), fun i hi => ?_, fun i hi => ?_, fun i hi => absurd hi (Nat.not_lt_zero _), fun i hi => absurd hi (Nat.not_lt_zero _), fun i hi => absurd hi (Nat.not_lt_zero _), fun i hi => absurd hi (Nat.not_lt_zero _)⟩
    · rw [q7.2.1 _ _ (by decide), q5.2.1 _ _ (by decide), q3.2.1 _ _ (by decide), q1.2.1 _ _ (by decide)]
      rfl
    · rw [q7.2.1 _ _ (by decide), q5.2.1 _ _ (by decide), q3.2.1 _ _ (by decide), q1.2.1 _ _ (by decide)]
      rfl
    · rw [q7.2.1 _ _ (by decide), q5.2.1 _ _ (by decide), q3.2.1 _ _ (by decide), q1.2.1 _ _ (by decide)]
      rfl
    · rw [q7.2.1 _ _ (by decide), q5.2.1 _ _ (by decide), q3.2.1 _ _ (by decide), q1.2.1 _ _ (by decide)]
      rfl
    · exact (q7.2.1 20 i (by decide)).trans ((q5.2.1 20 i (by decide)).trans ((q3.2.1 20 i (by decide)).trans (q1.1 i hi)))
    · exact (q7.2.1 21 i (by decide)).trans ((q5.2.1 21 i (by decide)).trans (q3.1 i hi))
    · exact (q7.2.1 24 i (by decide)).trans (q5.1 i hi)
    · exact q7.1 i hi
  · refine ⟨fun a k ha => ?_, q7.2.2.trans (q5.2.2.trans (q3.2.2.trans q1.2.2))⟩
    rw [q7.2.1 _ _ (by omega), q5.2.1 _ _ (by omega), q3.2.1 _ _ (by omega), q1.2.1 _ _ (by omega), set_1, if_neg (by omega), set_1, if_neg (by omega), set_1, if_neg (by omega), set_1, if_neg (by omega)]
theorem rewB_c (hl0 : l.1.stackTraces = false) (hJ : ∀ e ∈ RK, M.2.2 e.1 e.2.1 = e.2.2) {x : Int32} : AC l (pI pg 47) (fcV M (fun M' => (aset (aset M 2 2 (.int x)) 2 5 (.int (Int32.ofInt 0))) = M')) 0 0 [.ref 2, .int x] SHF M := by
  refine fw_of hl0 ⟨by decide +kernel, by decide +kernel, by decide +kernel⟩ rfl ?_
  exact rew_0 hJ hl0 ⟨rfl, rfl, rfl, rfl⟩
/-- the whole text: behind it a fault, or a house in the draft -/
def reFB (M M' : aM) : Prop := (∀ a k, (a = 2 → k ≠ 2 ∧ k ≠ 3 ∧ k ≠ 4 ∧ k ≠ 5) → (a = 1 → k ≠ 1 ∧ k ≠ 2) → (a < 17 ∨ 17 + 12 < a) → M'.1 a k = M.1 a k) ∧ M'.2.1 = M.2.1
def QRB (r : Flt ⊕ HS) (M : aM) : Int32 → aM → Prop := fun y M' => reFB M M' ∧ y = M'.1 1 1 ∧ (∀ f, r = .inl f → flt f M') ∧ ∀ H, r = .inr H → cHo 17 H M' ∧ HI H ∧ M'.1 1 1 = Int32.ofInt 0 ∧ M'.1 1 2 = Int32.ofInt (-1)
theorem reaB_c (hl0 : l.1.stackTraces = false) (hJ : ∀ e ∈ RK, M.2.2 e.1 e.2.1 = e.2.2) (n8 : n ≤ 800) (hu : ∀ i, u i < 256) (hb : ∀ i, i < n → M.1 3 i = sB (u i)) : AC l (pI pg 45) (fcI M (QRB (parS u n (n + 1) HS0 0) M)) 0 0 [.ref 1, .ref 17, .int (nI n)] SHF M := by
  refine fw_of hl0 ⟨by decide +kernel, by decide +kernel, by decide +kernel⟩ rfl ?_
  have loop : ∀ (d i p : Nat) (H : HS) (M1 : aM), i + d = n + 1 → p ≤ n → HI H → cHo 17 H M1 → CB n u M1 → M1.1 2 5 = nI p → M1.1 1 1 = Int32.ofInt 0 → M1.1 1 2 = Int32.ofInt (-1) → reFB M M1 → M1.2.2 = M.2.2 → AW l (pI pg 45) (fcI M (QRB (parS u n d H p) M)) 0 0 24 [(3, .int (nI i)), (2, .int (nI n)), (1, .ref 17), (0, .ref 1)] [] SHF M1 := by
    intro d
    induction d with
    | zero =>
      intro i p H M1 hi hp hI hH hB h5 h1 h2 hF e1
      have no : nI n < nI i := by rw [nI_ltI (by omega) (by omega)]; omega
      refine reaB_24 (by rw [e1]; exact hJ) hl0 (fun _ => ⟨rfl, e1, _, rfl, hF, rfl, fun f hf => ?_, fun H' hH' => ?_⟩) (fun h => absurd no h) (fun _ => True) (fun h => absurd no h) (fun _ _ => True) (fun h => absurd no h) (fun h => absurd no h) (fun h => absurd no h)
      · cases hf
      · cases hH'
        exact ⟨hH, hI, h1, h2⟩
    | succ d ih =>
      intro i p H M1 hi hp hI hH hB h5 h1 h2 hF e1
      have hJ1 : ∀ e ∈ RK, M1.2.2 e.1 e.2.1 = e.2.2 := by rw [e1]; exact hJ
      have yes : ¬ nI n < nI i := by rw [nI_ltI (by omega) (by omega)]; omega
      have k4 : tK u n p ≤ 4 := tkK_le
      have z : ∀ {M5 : aM}, QA u n p M1 M5 → (M5.1 2 3 = 0 ↔ tK u n p = 0) := fun {M5} q => by
        rw [q.1.2.1]
        exact ⟨fun h => nI_injN (b := 0) (by omega) (by decide) h, fun h => by show nI (tK u n p) = 0; rw [h]; rfl⟩
      have F1 : ∀ {M5 : aM}, QA u n p M1 M5 → reFB M M5 := fun {M5} q => ⟨fun a k g1 g2 g3 => (q.2.1 a k (fun e => ⟨(g1 e).2.1, (g1 e).2.2.1, (g1 e).2.2.2⟩)).trans (hF.1 a k g1 g2 g3), q.2.2.trans hF.2⟩
      show AW l (pI pg 45) (fcI M (QRB (if tK u n p = 0 then .inr H else bnd (linS u n H p) fun a => parS u n d a.1 a.2) M)) 0 0 24 _ _ _ _
      by_cases hk : tK u n p = 0
      · rw [if_pos hk]
        refine reaB_24 hJ1 hl0 (fun h => absurd h yes) (fun _ h => absurd h1 h) (QA u n p M1) (fun _ _ => adv_c hl0 (rk_rt hJ1 rfl) hB hp h5) (fun _ _ => True) (fun _ _ M5 e5 q5 h7 => absurd ((z q5).mpr hk) h7) (fun _ _ M5 e5 q5 h7 => absurd ((z q5).mpr hk) h7) (fun _ _ M5 e5 q5 h7 => ⟨rfl, e5.trans e1, _, rfl, F1 q5, rfl, fun f hf => ?_, fun H' hH' => ?_⟩)
        · cases hf
        · cases hH'
          exact ⟨cH_R (by decide) hH (rfF_of q5.2), hI, (q5.2.1 1 1 (fun e => absurd e (by decide))).trans h1, (q5.2.1 1 2 (fun e => absurd e (by decide))).trans h2⟩
      · rw [if_neg hk]
        refine reaB_24 hJ1 hl0 (fun h => absurd h yes) (fun _ h => absurd h1 h) (QA u n p M1) (fun _ _ => adv_c hl0 (rk_rt hJ1 rfl) hB hp h5) (fun M5 => QL 17 (linS u n H p) M5) (fun _ _ M5 e5 q5 h7 => rliB_c hl0 (by rw [e5]; exact hJ1) (CB_F hB q5.2) hp q5.1 hI (cH_R (by decide) hH (rfF_of q5.2))) (fun _ _ M5 e5 q5 h7 M8 e8 q8 => ?_) (fun _ _ M5 e5 q5 h7 => absurd ((z q5).mp h7) hk)
        have F8 : reFB M M8 := ⟨fun a k g1 g2 g3 => (q8.1.1 a k (fun e => ⟨(g1 e).2.1, (g1 e).2.2.1, (g1 e).2.2.2⟩) g2 g3).trans ((F1 q5).1 a k g1 g2 g3), q8.1.2.trans (F1 q5).2⟩
        have hJ8 : ∀ e ∈ RK, M8.2.2 e.1 e.2.1 = e.2.2 := by rw [e8, e5]; exact hJ1
        have e1i : nI i + Int32.ofInt 1 = nI (i + 1) := nI_1 _
        rw [e1i]
        cases hl : linS u n H p with
        | inl f =>
          have g := q8.2.1 f hl
          have hf1 := linS_f hl
          have nz : ¬ M8.1 1 1 = 0 := fun h => by
            rw [g.1] at h
            have := nI_injN (b := 0) (by omega) (by decide) h
            omega
          refine reaB_24 hJ8 hl0 (fun _ => ⟨rfl, e8.trans (e5.trans e1), _, rfl, F8, rfl, fun f' hf => ?_, fun H' hH' => ?_⟩) (fun _ _ => ⟨rfl, e8.trans (e5.trans e1), _, rfl, F8, rfl, fun f' hf => ?_, fun H' hH' => ?_⟩) (fun _ => True) (fun _ h => absurd h nz) (fun _ _ => True) (fun _ h => absurd h nz) (fun _ h => absurd h nz) (fun _ h => absurd h nz)
          · cases hf
            exact g
          · cases hH'
          · cases hf
            exact g
          · cases hH'
        | inr a =>
          have g := q8.2.2 a hl
          have gl := linS_ok hI hp hl
          have B8 : CB n u M8 := by
            refine ⟨hB.1, hB.2.1, ?_, fun i hi => ?_⟩
            · rw [q8.1.1 2 2 (fun _ => by decide) (fun e => absurd e (by decide)) (by decide)]
              exact (CB_F hB q5.2).2.2.1
            · rw [q8.1.1 3 i (fun e => absurd e (by decide)) (fun e => absurd e (by decide)) (by decide)]
              exact (CB_F hB q5.2).2.2.2 i hi
          exact ih (i + 1) a.2 a.1 M8 (by omega) gl.2.2 gl.1 g.1 B8 g.2.1 (g.2.2.1.trans ((q5.2.1 1 1 (fun e => absurd e (by decide))).trans h1)) (g.2.2.2.trans ((q5.2.1 1 2 (fun e => absurd e (by decide))).trans h2)) F8 (e8.trans (e5.trans e1))
  refine reaB_0 hJ hl0 (QHB HS0 M) (cleB_c hl0 hJ) (fun M1 M' => (aset (aset M1 2 2 (.int (nI n))) 2 5 (.int (Int32.ofInt 0))) = M') (fun M1 e1 q1 => rewB_c hl0 (by rw [e1]; exact hJ)) (fun M1 e1 q1 M3 e3 q3 => ?_)
  subst q3
  refine loop (n + 1) 0 0 HS0 _ (by omega) (by omega) HI_0 (cH_eq q1.1 (fun a k h1 h2 => ?_)) ⟨n8, hu, rfl, fun i hi => ?_⟩ rfl rfl rfl ⟨fun a k g1 g2 g3 => ?_, q1.2.2⟩ e1
  · rw [set_1, if_neg (by omega), set_1, if_neg (by omega), set_1, if_neg (by omega), set_1, if_neg (by omega)]
  · show M1.1 3 i = sB (u i)
    rw [q1.2.1 3 i (by decide)]
    exact hb i hi
  · have ee : M1.1 a k = M.1 a k := q1.2.1 a k g3
    rw [set_1]
    by_cases e : a = 1
    · have := g2 e
      rw [if_pos e, if_neg this.2, set_1, if_pos e, if_neg this.1, set_1, if_neg (by omega), set_1, if_neg (by omega)]
      exact ee
    · rw [if_neg e, set_1, if_neg e, set_1]
      by_cases e' : a = 2
      · have := g1 e'
        rw [if_pos e', if_neg this.2.2.2, set_1, if_pos e', if_neg this.1]
        exact ee
      · rw [if_neg e', set_1, if_neg e']
        exact ee
end RLB
