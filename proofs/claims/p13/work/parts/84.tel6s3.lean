section REFM
variable {l : aL} {M : aM} {H : HS}
def bcN (x : Nat) : Nat → Nat
  | 0 => 0
  | i + 1 => bcN x i + x / 2 ^ i % 2
theorem pcN_le8 {k : Nat} : pcN k ≤ 8 := Nat.le_trans (List.length_filter_le _ _) (by rw [List.length_range]; exact Nat.le_refl _)
theorem bcN_pc : ∀ x, x < 256 → bcN x 8 = pcN x := by decide +kernel
theorem bcN_le (x : Nat) : ∀ i, bcN x i ≤ i
  | 0 => Nat.le_refl _
  | i + 1 => by
    have := bcN_le x i
    show bcN x i + x / 2 ^ i % 2 ≤ i + 1
    omega
theorem pcN_le {x : Nat} (hx : x < 256) : pcN x ≤ 8 := by
  rw [← bcN_pc x hx]
  exact bcN_le x 8
theorem bts_c (hl0 : l.1.stackTraces = false) {t : Nat} (ht : t < 256) : AC l (pI pg 217) (fcI M (fun y M' => M' = M ∧ y = nI (pcN t))) 0 0 [.int (nI t)] SHF M := by
  refine fw_of hl0 ⟨by decide +kernel, by decide +kernel, by decide +kernel⟩ rfl ?_
  refine bts_0 hl0 ?_
  have loop : ∀ (d i : Nat), i + d = 8 → AW l (pI pg 217) (fcI M (fun y M' => M' = M ∧ y = nI (pcN t))) 0 0 4 [(2, .int (nI i)), (1, .int (nI (bcN t i))), (0, .int (nI t))] [] SHF M := by
    intro d
    induction d with
    | zero =>
      intro i hi
      have ei : i = 8 := by omega
      subst ei
      exact bts_4 hl0 (fun _ => ⟨rfl, rfl, _, rfl, rfl, by rw [bcN_pc t ht]⟩) (fun h => absurd (by rw [z_8]; exact Int32.le_refl _) h)
    | succ d ih =>
      intro i hi
      refine bts_4 hl0 (fun h => ge_no (a := i) (b := 8) (by omega) (by decide) (by rw [z_8] at h; exact h)) (fun _ => ?_)
      rw [show nI i + Int32.ofInt 1 = nI (i + 1) from nI_1 i, bitN (by omega) (by omega), nI_add]
      exact ih (i + 1) (by omega)
  exact loop 8 0 rfl
/-- of the sets below s that can be done, the greatest number -/
def mxO (H : HS) (cd : Nat → Nat) (lf N s v : Nat) : Prop := (v = 0 ∨ ∃ t, t < s ∧ rea H cd lf N t ∧ pcN t = v) ∧ ∀ t, t < s → rea H cd lf N t → pcN t ≤ v
theorem mxO_eq {cd : Nat → Nat} {lf N s v v' : Nat} (h : mxO H cd lf N s v) (h' : mxO H cd lf N s v') : v = v' := by
  have a : v ≤ v' := by
    rcases h.1 with h1 | ⟨t, h1, h2, h3⟩
    · omega
    · have := h'.2 t h1 h2
      omega
  have b : v' ≤ v := by
    rcases h'.1 with h1 | ⟨t, h1, h2, h3⟩
    · omega
    · have := h.2 t h1 h2
      omega
  omega
def hLs (H : HS) (cd : Nat → Nat) (N : Nat) (D : rD) : Prop := ∀ p, p < N → ∀ a, (∃ k, k < dN D p ∧ dL D p k = a) ↔ (a < 2 ^ H.wo ∧ sbs a (cd p) ∧ fit H a (H.ho p))
theorem mos_c (hl0 : l.1.stackTraces = false) {cd : Nat → Nat} {N : Nat} {D : rD} {fx : Nat → Int} (w8 : H.wo ≤ 8) (hm : mdl M N D fx) (hb : mdB N D) (hW : dW D = H.wo) (hL : hLs H cd N D) : AC l (pI pg 216) (fcI M (fun y _ => ∃ v, v ≤ 8 ∧ y = nI v ∧ mxO H cd (dLf D) N (2 ^ H.wo) v)) 0 0 [.ref 58, .int (nI (dLf D))] SHF M := by
  have P8 := p2_8 w8
  refine fw_of hl0 ⟨by decide +kernel, by decide +kernel, by decide +kernel⟩ rfl ?_
  refine mos_0 hm.1 hl0 (Q209 M) (c209 hl0 hm.1) (fun M1 => Q210 N D (rwI M1 76) M1) (fun M1 e1 q1 => c210 hl0 (hm.re e1 (fun a k ha _ _ _ _ => q1.2.2 a k ha)) hb) (fun M1 e1 q1 M3 e3 q3 => ?_)
  have hm1 := hm.re e1 (fun a k ha _ _ _ _ => q1.2.2 a k ha)
  have hm3 := hm1.keep e3 q3.2.2
  have key : ∀ {t : Nat}, t < 2 ^ H.wo → (rwI M3 77 t ≠ -1 ↔ rea H cd (dLf D) N t) := fun {t} ht => Best_rea hW (fun w hw => by
    have := q1.1 w (by omega)
    show (M1.1 76 w).toInt = -1
    rw [this]
    rfl) rfl hL q3.1 ht
  have e58 : M3.1 58 2 = nI H.wo := by rw [← hW]; exact hm3.2.1
  have loop : ∀ (d s v : Nat), s + d = 2 ^ H.wo → v ≤ 8 → mxO H cd (dLf D) N s v → AW l (pI pg 216) (fcI M (fun y _ => ∃ v, v ≤ 8 ∧ y = nI v ∧ mxO H cd (dLf D) N (2 ^ H.wo) v)) 0 0 13 [(3, .int (nI s)), (2, .int (nI v)), (1, .int (nI (dLf D))), (0, .ref 58)] [] SHF M3 := by
    intro d
    induction d with
    | zero =>
      intro s v hs v8 hx
      have es : s = 2 ^ H.wo := by omega
      subst es
      have g : Int32.ofInt 1 <<< (M3.1 58 2 &&& 31) ≤ nI (2 ^ H.wo) := by
        rw [e58, shW w8]
        exact Int32.le_refl _
      exact mos_13 hm3.1 hl0 (fun _ => ⟨rfl, e3.trans e1, _, rfl, v, v8, rfl, hx⟩) (fun h => absurd g h) (fun h => absurd g h) (fun _ _ => True) (fun h => absurd g h) (fun h => absurd g h) (fun _ _ _ _ => True) (fun h => absurd g h) (fun h => absurd g h)
    | succ d ih =>
      intro s v hs v8 hx
      have ng : ¬ Int32.ofInt 1 <<< (M3.1 58 2 &&& 31) ≤ nI s := by
        rw [e58, shW w8, nle (by omega) (by omega)]
        omega
      have p8 := pcN_le (x := s) (by omega)
      refine mos_13 hm3.1 hl0 (fun h => absurd h ng) (fun _ => vp_in_nI (by omega) (by decide)) (fun _ h4 => ?_) (fun y M' => M' = M3 ∧ y = nI (pcN s)) (fun _ h4 => bts_c hl0 (by omega)) (fun _ h4 y6 M6 e6 q6 h8 => ?_) (fun _ M6 y M' => M' = M6 ∧ y = nI (pcN s)) (fun _ h4 y6 M6 e6 q6 h8 => bts_c hl0 (by omega)) (fun _ h4 y6 M6 e6 q6 h8 y10 M10 e10 q10 => ?_)
      · rw [nI_clamp (by omega), i_m1] at h4
        rw [show nI s + Int32.ofInt 1 = nI (s + 1) from nI_1 s]
        have nr : ¬ rea H cd (dLf D) N s := fun h => (key (by omega)).mpr h h4
        refine ih (s + 1) v (by omega) v8 ⟨hx.1.imp id (fun ⟨t, a, b⟩ => ⟨t, by omega, b⟩), fun t ht hr => ?_⟩
        by_cases e : t = s
        · subst e
          exact absurd hr nr
        · exact hx.2 t (by omega) hr
      · obtain ⟨rfl, rfl⟩ := q6
        rw [nle (by omega) (by omega)] at h8
        rw [show nI s + Int32.ofInt 1 = nI (s + 1) from nI_1 s]
        refine ih (s + 1) v (by omega) v8 ⟨hx.1.imp id (fun ⟨t, a, b⟩ => ⟨t, by omega, b⟩), fun t ht hr => ?_⟩
        by_cases e : t = s
        · subst e
          exact h8
        · exact hx.2 t (by omega) hr
      · obtain ⟨rfl, rfl⟩ := q6
        obtain ⟨rfl, rfl⟩ := q10
        rw [nle (by omega) (by omega)] at h8
        rw [nI_clamp (by omega), i_m1] at h4
        rw [show nI s + Int32.ofInt 1 = nI (s + 1) from nI_1 s]
        refine ih (s + 1) (pcN s) (by omega) p8 ⟨Or.inr ⟨s, by omega, (key (by omega)).mp h4, rfl⟩, fun t ht hr => ?_⟩
        by_cases e : t = s
        · subst e
          exact Nat.le_refl _
        · have := hx.2 t (by omega) hr
          omega
  exact loop (2 ^ H.wo) 0 0 (by omega) (by decide) ⟨Or.inl rfl, fun t ht => absurd ht (Nat.not_lt_zero _)⟩
end REFM
section REFN
variable {l : aL} {M : aM} {H : HS}
theorem nbq {a b : Nat} (h : a ≠ b) : Nat.beq a b = false := by
  cases e : Nat.beq a b with
  | false => rfl
  | true => exact absurd (Nat.eq_of_beq_eq_true e) h
theorem lsAll_hL {ts lf : Nat} (w8 : H.wo ≤ 8) (h : lsAll H ts H.pe M) : hLs H (fun p => cdT H ts p H.te) H.pe (mkD M lf) := by
  have P8 := p2_8 w8
  intro p hp a
  obtain ⟨⟨n, n1, n2, n3, n4⟩, -⟩ := h p hp
  have eN : dN (mkD M lf) p = n := by
    show (M.1 74 p).toInt.toNat = n
    rw [n2, nI_toInt (by omega)]
    rfl
  have eL : ∀ {k b : Nat}, b < 256 → M.1 73 (256 * p + k) = nI b → dL (mkD M lf) p k = b := fun {k b} hb h => by
    show (M.1 73 (256 * p + k)).toInt.toNat = b
    rw [h, nI_toInt (by omega)]
    rfl
  rw [eN]
  constructor
  · rintro ⟨k, hk, rfl⟩
    obtain ⟨a, a1, a2, a3, a4⟩ := n3 k hk
    rw [eL (by omega) a2]
    exact ⟨a1, a3, a4⟩
  · rintro ⟨h1, h2, h3⟩
    obtain ⟨k, k1, k2⟩ := n4 a h1 h2 h3
    exact ⟨k, k1, eL (by omega) k2⟩
theorem mH_fr0 {x : Int32} (h : mHo H M) : mHo H (aset M 58 0 (.int x)) := h
theorem lsAll_fr {M' : aM} {ts N : Nat} (w8 : H.wo ≤ 8) (h : lsAll H ts N M) (h1 : ∀ p, p < N → M'.1 74 p = M.1 74 p) (h2 : ∀ p k, p < N → k < 256 → M'.1 73 (256 * p + k) = M.1 73 (256 * p + k)) (h3 : ∀ p w, p < N → w < H.wo → M'.1 75 (8 * p + w) = M.1 75 (8 * p + w)) : lsAll H ts N M' := by
  intro p hp
  obtain ⟨u1, u2⟩ := h p hp
  exact ⟨lsO_fr (p2_8 w8) u1 (h1 p hp) (fun k hk => h2 p k hp hk), fun w hw => (h3 p w hp hw).trans (u2 w hw)⟩
theorem lal_j {R : sR} (hl0 : l.1.stackTraces = false) (hk : cOk l pg R SHF en_98) (hR : ∀ e ∈ RM, M.2.2 e.1 e.2.1 = e.2.2) (hJ : JR R M) (hI : HI H) (hm : mHo H M) : AC l (pI pg 204) (fcV M (fun M' => JR R M' ∧ QlA H 0 M M')) 0 0 [.ref 58, .int (Int32.ofInt 0)] SHF M := by
  have w8 := hI.2.1
  have p6 := hI.1
  refine AC.post hl0 (fun r sh' M' hp => ?_) (AC.joinV (lal_c (ts := 0) hl0 hR hI hm (by decide)) (fcV_of (e := en_98) hl0 hk rfl rfl rfl rfl ⟨rfl, ⟨_, rfl, by decide, by decide⟩, trivial⟩ hJ (fun _ h => absurd h List.not_mem_nil)))
  obtain ⟨p1, p2, p3, qJ, M1, qL, qS⟩ := hp
  refine ⟨p1, p2, p3, ⟨qJ.1, qJ.2.1⟩, lsAll_fr w8 qL.1 (fun p hp => ?_) (fun p k hp hk => ?_) (fun p w hp hw => ?_), fun a k a1 a2 a3 => qJ.2.2.1 a k (wr_p (fun b => !(Nat.beq b 73 || (Nat.beq b 74 || Nat.beq b 75))) (by decide +kernel) ?_)⟩
  · exact (sme_aI qS (i := 74) (n := 6) (ty := .int) rfl rfl (by omega)).symm
  · exact (sme_aI qS (i := 73) (n := 1536) (ty := .int) rfl rfl (by omega)).symm
  · exact (sme_aI qS (i := 75) (n := 48) (ty := .int) rfl rfl (by omega)).symm
  · rw [Bool.not_eq_true', Bool.or_eq_false_iff, Bool.or_eq_false_iff]
    exact ⟨nbq a1, nbq a2, nbq a3⟩
theorem isL_ix {x : Int32} (hI : HI H) (h : inN (2 ^ H.pe) x) : x = nI x.toNatClampNeg ∧ x.toNatClampNeg < 2 ^ H.pe ∧ x.toNatClampNeg < 64 := by
  have p6 := hI.1
  have P : 2 ^ H.pe ≤ 2 ^ 6 := Nat.pow_le_pow_right (by decide) p6
  have h1 := h.1
  have h2 := h.2
  have e : x = nI x.toInt.toNat := nI_self h1
  have e2 : x.toNatClampNeg = x.toInt.toNat := by
    rw [e, nI_clamp (by omega), ← e]
  rw [e2]
  exact ⟨e, by omega, by omega⟩
theorem isL_in {x : Int32} (hI : HI H) (h : inN (2 ^ H.pe) x) : inI x (0, 63) := by
  have P : 2 ^ H.pe ≤ 2 ^ 6 := Nat.pow_le_pow_right (by decide) hI.1
  have h2 := h.2
  exact ⟨h.1, by show x.toInt ≤ 63; omega⟩
def QMmo (H : HS) (x z : Int32) (M' : aM) : Prop := (inN (2 ^ H.pe) x ∧ M'.1 58 0 = 0 ∧ ∃ v, v ≤ 8 ∧ z = nI v ∧ mxO H (fun p => cdT H 0 p H.te) x.toNatClampNeg H.pe (2 ^ H.wo) v) ∨ (¬ inN (2 ^ H.pe) x ∧ M'.1 58 0 = 1)
theorem mmo_c {R : sR} (hl0 : l.1.stackTraces = false) (hO : okR R) (hk : cOk l pg R SHF en_98) (hk2 : cOk l pg R SHF en_108) (w0 : wcF R.1 58 0 (0, 2) = true) (hJ : JR R M) (hI : HI H) (hm : mHo H M) {x : Int32} : AC l (pI pg 215) (fcI M (QMmo H x)) 0 0 [.ref 58, .int x] SHF M := by
  have w8 := hI.2.1
  have p6 := hI.1
  have hR : ∀ e ∈ RM, M.2.2 e.1 e.2.1 = e.2.2 := fun e he => rgR_ok hJ.2 (hO.1 e he)
  refine fw_of hl0 ⟨by decide +kernel, by decide +kernel, by decide +kernel⟩ rfl ?_
  have z1 : ¬ (1 : Int32) = 0 := by decide
  have m0 : mHo H (M0w M) := mH_fr0 hm
  have j0 : JR R (M0w M) := JR_set (q := (0, 2)) hJ w0 ⟨by decide, by decide⟩
  refine mmo_0 hR hl0 _ (isl_c hl0 hR hI hm.1) (fun y1 M1 M' => JR R M' ∧ QlA H 0 M1 M') (fun y1 M1 e1 q1 h3 => ?_) (fun y1 M1 M4 y M' => M'.1 58 0 = M4.1 58 0 ∧ ∃ v, v ≤ 8 ∧ y = nI v ∧ mxO H (fun p => cdT H 0 p H.te) x.toNatClampNeg H.pe (2 ^ H.wo) v) (fun y1 M1 e1 q1 h3 M4 e4 q4 => ?_) (fun y1 M1 e1 q1 h3 M4 e4 q4 y6 M6 e6 q6 => ?_) (fun y1 M1 e1 q1 h3 => ?_)
  · obtain ⟨-, -, rfl⟩ := q1.resolve_right (fun q => h3 q.2.1)
    exact lal_j hl0 hk hR j0 hI m0
  · obtain ⟨n1, -, rfl⟩ := q1.resolve_right (fun q => h3 q.2.1)
    obtain ⟨x1, x2, x3⟩ := isL_ix hI n1
    obtain ⟨g1, g2⟩ := mdl_of (left := x.toNatClampNeg) hO q4.1 x3
    have f58 : M4.1 58 1 = nI H.pe := (q4.2.2 58 1 (by decide) (by decide) (by decide)).trans m0.1
    have f582 : M4.1 58 2 = nI H.wo := (q4.2.2 58 2 (by decide) (by decide) (by decide)).trans m0.2.1
    have eN : (M4.1 58 1).toInt.toNat = H.pe := by rw [f58, nI_toInt (by omega)]; rfl
    have eW : dW (mkD M4 x.toNatClampNeg) = H.wo := by
      show (M4.1 58 2).toInt.toNat = H.wo
      rw [f582, nI_toInt (by omega)]
      rfl
    rw [eN] at g1 g2
    have c := mos_c (H := H) hl0 w8 g1 g2 eW (lsAll_hL w8 q4.2.1)
    rw [show nI (dLf (mkD M4 x.toNatClampNeg)) = x from x1.symm] at c
    refine AC.post hl0 (fun r sh' M' hp => ?_) (AC.joinI c (fcI_of (e := en_108) hl0 hk2 rfl rfl rfl rfl ⟨rfl, ⟨x, rfl, isL_in hI n1⟩, trivial⟩ q4.1 (fun _ h => absurd h List.not_mem_nil)))
    obtain ⟨r1, r2, y, r3, ⟨-, qJ⟩, M5, q5, -⟩ := hp
    exact ⟨r1, r2, y, r3, qJ.2.2.1 58 0 (by decide +kernel), q5⟩
  · obtain ⟨n1, -, rfl⟩ := q1.resolve_right (fun q => h3 q.2.1)
    exact ⟨rfl, e6.trans (e4.trans e1), _, rfl, Or.inl ⟨n1, q6.1.trans ((q4.2.2 58 0 (by decide) (by decide) (by decide)).trans rfl), q6.2⟩⟩
  · obtain ⟨n1, -, rfl⟩ := q1.resolve_left (fun q => absurd (q.2.1.symm.trans h3) z1)
    exact ⟨rfl, e1, _, rfl, Or.inr ⟨n1, rfl⟩⟩
/-- of the sets below s that can't be done the smallest, of as small the least -/
def brO (H : HS) (cd : Nat → Nat) (lf N s : Nat) : Option Nat → Prop
  | none => ∀ t, t < s → rea H cd lf N t
  | some b => b < s ∧ ¬ rea H cd lf N b ∧ ∀ t, t < s → ¬ rea H cd lf N t → pcN b < pcN t ∨ (pcN b = pcN t ∧ b ≤ t)
def brV : Option Nat → Int32
  | none => Int32.ofInt (-1)
  | some b => nI b
section BRO
variable {cd : Nat → Nat} {lf N s : Nat}
theorem br_eq {v v' : Option Nat} (h : brO H cd lf N s v) (h' : brO H cd lf N s v') : v = v' := by
  cases v with
  | none =>
    cases v' with
    | none => rfl
    | some b => exact absurd (h b h'.1) h'.2.1
  | some a =>
    cases v' with
    | none => exact absurd (h' a h.1) h.2.1
    | some b =>
      have h1 := h.2.2 b h'.1 h'.2.1
      have h2 := h'.2.2 a h.1 h.2.1
      exact congrArg some (by omega)
theorem br_keep {v : Option Nat} (h : brO H cd lf N s v) (hr : rea H cd lf N s) : brO H cd lf N (s + 1) v := by
  cases v with
  | none =>
    intro t ht
    by_cases e : t = s
    · rw [e]; exact hr
    · exact h t (by omega)
  | some b =>
    refine ⟨Nat.lt_succ_of_lt h.1, h.2.1, fun t ht hn => ?_⟩
    by_cases e : t = s
    · rw [e] at hn; exact absurd hr hn
    · exact h.2.2 t (by omega) hn
theorem br_none (h : brO H cd lf N s none) (hr : ¬ rea H cd lf N s) : brO H cd lf N (s + 1) (some s) := by
  refine ⟨Nat.lt_succ_self _, hr, fun t ht hn => ?_⟩
  by_cases e : t = s
  · rw [e]; exact Or.inr ⟨rfl, Nat.le_refl _⟩
  · exact absurd (h t (by omega)) hn
theorem br_less {b : Nat} (h : brO H cd lf N s (some b)) (hr : ¬ rea H cd lf N s) (hl : pcN s < pcN b) : brO H cd lf N (s + 1) (some s) := by
  refine ⟨Nat.lt_succ_self _, hr, fun t ht hn => ?_⟩
  by_cases e : t = s
  · rw [e]; exact Or.inr ⟨rfl, Nat.le_refl _⟩
  · have := h.2.2 t (by omega) hn
    exact Or.inl (by omega)
theorem br_ge {b : Nat} (h : brO H cd lf N s (some b)) (hl : pcN b ≤ pcN s) : brO H cd lf N (s + 1) (some b) := by
  refine ⟨Nat.lt_succ_of_lt h.1, h.2.1, fun t ht hn => ?_⟩
  by_cases e : t = s
  · rw [e]
    have := h.1
    omega
  · exact h.2.2 t (by omega) hn
end BRO
def QMba (H : HS) (x z : Int32) (M' : aM) : Prop := (inN (2 ^ H.pe) x ∧ M'.1 58 0 = 0 ∧ ∃ v, z = brV v ∧ brO H (fun p => cdT H 0 p H.te) x.toNatClampNeg H.pe (2 ^ H.wo) v) ∨ (¬ inN (2 ^ H.pe) x ∧ M'.1 58 0 = 1)
theorem mba_c {R : sR} (hl0 : l.1.stackTraces = false) (hO : okR R) (hk : cOk l pg R SHF en_98) (w0 : wcF R.1 58 0 (0, 2) = true) (hJ : JR R M) (hI : HI H) (hm : mHo H M) {x : Int32} : AC l (pI pg 218) (fcI M (QMba H x)) 0 0 [.ref 58, .int x] SHF M := by
  have w8 := hI.2.1
  have P8 := p2_8 w8
  have p6 := hI.1
  have hR : ∀ e ∈ RM, M.2.2 e.1 e.2.1 = e.2.2 := fun e he => rgR_ok hJ.2 (hO.1 e he)
  refine fw_of hl0 ⟨by decide +kernel, by decide +kernel, by decide +kernel⟩ rfl ?_
  have z1 : ¬ (1 : Int32) = 0 := by decide
  have m0 : mHo H (M0w M) := mH_fr0 hm
  have j0 : JR R (M0w M) := JR_set (q := (0, 2)) hJ w0 ⟨by decide, by decide⟩
  have wpos := Nat.two_pow_pos H.wo
  have mem : ∀ (M4 : aM), JR R M4 → QlA H 0 (M0w M) M4 → inN (2 ^ H.pe) x → mdl M4 H.pe (mkD M4 x.toNatClampNeg) (rwI M4 76) ∧ mdB H.pe (mkD M4 x.toNatClampNeg) ∧ dW (mkD M4 x.toNatClampNeg) = H.wo ∧ nI (dLf (mkD M4 x.toNatClampNeg)) = x := by
    intro M4 j4 q4 n1
    obtain ⟨x1, x2, x3⟩ := isL_ix hI n1
    obtain ⟨g1, g2⟩ := mdl_of (left := x.toNatClampNeg) hO j4 x3
    have f58 : M4.1 58 1 = nI H.pe := (q4.2 58 1 (by decide) (by decide) (by decide)).trans m0.1
    have f582 : M4.1 58 2 = nI H.wo := (q4.2 58 2 (by decide) (by decide) (by decide)).trans m0.2.1
    have eN : (M4.1 58 1).toInt.toNat = H.pe := by rw [f58, nI_toInt (by omega)]; rfl
    rw [eN] at g1 g2
    refine ⟨g1, g2, ?_, x1.symm⟩
    show (M4.1 58 2).toInt.toNat = H.wo
    rw [f582, nI_toInt (by omega)]
    rfl
  have key : ∀ {M4 M6 : aM} {y : Int32}, JR R M4 → QlA H 0 (M0w M) M4 → inN (2 ^ H.pe) x → Q208 H.pe (mkD M4 x.toNatClampNeg) M4 y M6 → ∀ {t : Nat}, t < 2 ^ H.wo → (rwI M6 77 t ≠ -1 ↔ rea H (fun p => cdT H 0 p H.te) x.toNatClampNeg H.pe t) := by
    intro M4 M6 y j4 q4 n1 q6 t ht
    obtain ⟨g1, g2, g3, g4⟩ := mem M4 j4 q4 n1
    exact Best_rea g3 (fun w hw => by
      have := q6.1 w (by omega)
      show (M6.1 76 w).toInt = -1
      rw [this]
      rfl) rfl (lsAll_hL w8 q4.1) q6.2.2.2.1 ht
  refine mba_0 hR hl0 _ (isl_c hl0 hR hI hm.1) (fun y1 M1 M' => JR R M' ∧ QlA H 0 M1 M') (fun y1 M1 e1 q1 h3 => ?_) (fun y1 M1 M4 y M' => Q208 H.pe (mkD M4 x.toNatClampNeg) M4 y M') (fun y1 M1 e1 q1 h3 M4 e4 q4 => ?_) (fun y1 M1 e1 q1 h3 M4 e4 q4 y6 M6 e6 q6 h8 => ?_) (fun y1 M1 e1 q1 h3 M4 e4 q4 y6 M6 e6 q6 h8 => ?_) (fun y1 M1 e1 q1 h3 => ?_)
  · obtain ⟨-, -, rfl⟩ := q1.resolve_right (fun q => h3 q.2.1)
    exact lal_j hl0 hk hR j0 hI m0
  · obtain ⟨n1, -, rfl⟩ := q1.resolve_right (fun q => h3 q.2.1)
    obtain ⟨g1, g2, g3, g4⟩ := mem M4 q4.1 q4.2 n1
    have c := c208 (l := l) hl0 g1 g2
    rw [g4] at c
    exact c
  · obtain ⟨n1, -, rfl⟩ := q1.resolve_right (fun q => h3 q.2.1)
    have ky := fun {t : Nat} (ht : t < 2 ^ H.wo) => key q4.1 q4.2 n1 q6 ht
    have f0 : M6.1 58 0 = 0 := (q6.2.2.1 58 0 (by decide) (by decide) (by decide)).trans ((q4.2.2 58 0 (by decide) (by decide) (by decide)).trans rfl)
    have e58 : M6.1 58 2 = nI H.wo := (q6.2.2.1 58 2 (by decide) (by decide) (by decide)).trans ((q4.2.2 58 2 (by decide) (by decide) (by decide)).trans m0.2.1)
    have e22 : M6.2.2 = M.2.2 := e6.trans (e4.trans e1)
    have hR6 : ∀ e ∈ RM, M6.2.2 e.1 e.2.1 = e.2.2 := by rw [e22]; exact hR
    have loop : ∀ (d s : Nat) (v : Option Nat), s + d = 2 ^ H.wo → brO H (fun p => cdT H 0 p H.te) x.toNatClampNeg H.pe s v → AW l (pI pg 218) (fcI M (QMba H x)) 0 0 35 [(3, .int (nI s)), (2, .int (brV v)), (1, .int x), (0, .ref 58)] [] SHF M6 := by
      intro d
      induction d with
      | zero =>
        intro s v hs hx
        have es : s = 2 ^ H.wo := by omega
        subst es
        have g : Int32.ofInt 1 <<< (M6.1 58 2 &&& 31) ≤ nI (2 ^ H.wo) := by
          rw [e58, shW w8]
          exact Int32.le_refl _
        exact mba_35 hR6 hl0 (fun _ => ⟨rfl, e22, _, rfl, Or.inl ⟨n1, f0, v, rfl, hx⟩⟩) (fun h => absurd g h) (fun h => absurd g h) (fun h => absurd g h) (fun _ _ => True) (fun h => absurd g h) (fun _ _ _ _ => True) (fun h => absurd g h) (fun h => absurd g h) (fun h => absurd g h)
      | succ d ih =>
        intro s v hs hx
        have ng : ¬ Int32.ofInt 1 <<< (M6.1 58 2 &&& 31) ≤ nI s := by
          rw [e58, shW w8, nle (by omega) (by omega)]
          omega
        have nx : nI s + Int32.ofInt 1 = nI (s + 1) := nI_1 s
        have cs : (nI s).toNatClampNeg = s := nI_clamp (by omega)
        have pl : ∀ {t : Nat}, t < 256 → pcN t ≤ 8 := fun h => pcN_le h
        refine mba_35 hR6 hl0 (fun h => absurd h ng) (fun _ => vp_in_nI (by omega) (by decide)) (fun _ h4 => ?_) (fun _ h4 h6 => ?_) (fun y M' => M' = M6 ∧ y = nI (pcN s)) (fun _ h4 h6 => bts_c hl0 (by omega)) (fun _ M8 y M' => M' = M8 ∧ ∃ b, v = some b ∧ y = nI (pcN b)) (fun _ h4 h6 y8 M8 e8 q8 => ?_) (fun _ h4 h6 y8 M8 e8 q8 y10 M10 e10 q10 h12 => ?_) (fun _ h4 h6 y8 M8 e8 q8 y10 M10 e10 q10 h12 => ?_)
        · rw [cs, i_m1] at h4
          rw [nx]
          exact ih (s + 1) v (by omega) (br_keep hx ((ky (by omega)).mp h4))
        · rw [cs, i_m1] at h4
          have nr : ¬ rea H (fun p => cdT H 0 p H.te) x.toNatClampNeg H.pe s := fun h => (ky (by omega)).mpr h h4
          rw [nx]
          cases v with
          | none => exact ih (s + 1) (some s) (by omega) (br_none hx nr)
          | some b => exact absurd h6 (nI_nm1 (by have := hx.1; omega))
        · cases v with
          | none => exact absurd rfl h6
          | some b =>
            have b1 := hx.1
            obtain ⟨rfl, -⟩ := q8
            exact AC.post hl0 (fun r sh' M' hp => by
              obtain ⟨r1, r2, y, r3, r4, r5⟩ := hp
              exact ⟨r1, r2, y, r3, r4, b, rfl, r5⟩) (bts_c (M := M8) (t := b) hl0 (by omega))
        · obtain ⟨rfl, rfl⟩ := q8
          obtain ⟨rfl, b, rfl, rfl⟩ := q10
          have b1 := hx.1
          have u1 := pl (t := b) (by omega)
          have u2 := pl (t := s) (by omega)
          rw [nle (by omega) (by omega)] at h12
          rw [nx]
          exact ih (s + 1) (some b) (by omega) (br_ge hx h12)
        · obtain ⟨rfl, rfl⟩ := q8
          obtain ⟨rfl, b, rfl, rfl⟩ := q10
          have b1 := hx.1
          have u1 := pl (t := b) (by omega)
          have u2 := pl (t := s) (by omega)
          rw [nle (by omega) (by omega)] at h12
          rw [cs, i_m1] at h4
          have nr : ¬ rea H (fun p => cdT H 0 p H.te) x.toNatClampNeg H.pe s := fun h => (ky (by omega)).mpr h h4
          rw [nx]
          exact ih (s + 1) (some s) (by omega) (br_less hx nr (by omega))
    exact loop (2 ^ H.wo) 0 none (by omega) (fun t ht => absurd ht (Nat.not_lt_zero _))
  · obtain ⟨n1, -, rfl⟩ := q1.resolve_right (fun q => h3 q.2.1)
    have f0 : M6.1 58 0 = 0 := (q6.2.2.1 58 0 (by decide) (by decide) (by decide)).trans ((q4.2.2 58 0 (by decide) (by decide) (by decide)).trans rfl)
    refine ⟨rfl, e6.trans (e4.trans e1), _, rfl, Or.inl ⟨n1, f0, none, rfl, fun t ht => ?_⟩⟩
    obtain ⟨-, -, g3, -⟩ := mem M4 q4.1 q4.2 n1
    have full := (q6.2.2.2.2.resolve_right (fun q => h8 q.1)).2
    rw [g3] at full
    exact rea_mono _ (fun w hw => by
      rw [Nat.testBit_two_pow_sub_one, decide_eq_true_eq]
      exact Nat.lt_of_not_le fun hle => by rw [tb_no ht hle] at hw; cases hw) ((key q4.1 q4.2 n1 q6 (by omega)).mp full)
  · obtain ⟨n1, -, rfl⟩ := q1.resolve_left (fun q => absurd (q.2.1.symm.trans h3) z1)
    exact ⟨rfl, e1, _, rfl, Or.inr ⟨n1, rfl⟩⟩
end REFN
