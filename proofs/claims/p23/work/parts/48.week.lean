/-! weekMore: its search ends -/
def Q241 (W : Nat) (M : aM) : Int32 → aM → Prop := fun y M' => M' = M ∧ y.toInt = gre (rwI M 77) (2 ^ W)
theorem c241 {l : aL} (hl0 : l.1.stackTraces = false) {M : aM} {N : Nat} {D : rD} {fx : Nat → Int} (hm : mdl M N D fx) (hb : mdB N D) : AC l (pI pg 242) (fcI M (Q241 (dW D) M)) 0 0 [.ref 58] SHF M := by
  refine fw_of hl0 ⟨by decide +kernel, by decide +kernel, by decide +kernel⟩ rfl ?_
  have hW := hb.1
  have h256 := p2_8 hW
  refine s241_0 hm.1 ?_
  have loop : ∀ (d s : Nat) (v : Int32), s + d = 2 ^ dW D → v.toInt = gre (rwI M 77) s → AW l (pI pg 242) (fcI M (Q241 (dW D) M)) 0 0 4 [(2, .int (nI s)), (1, .int v), (0, .ref 58)] [] SHF M := by
    intro d
    induction d with
    | zero =>
      intro s v hs hv
      have no : ¬ ¬ (Int32.ofInt 1 <<< (M.1 58 2 &&& 31) ≤ nI s) := by
        rw [hm.2.1, shW hW]
        exact fun h => h (nI_le (by omega) (by omega))
      refine s241_4 hm.1 (fun _ => ?_) (fun h => absurd h no) (fun h => absurd h no) (fun h => absurd h no)
      exact ⟨rfl, rfl, _, rfl, rfl, by rw [hv, show s = 2 ^ dW D by omega]⟩
    | succ d ih =>
      intro s v hs hv
      have hcs : (nI s).toNatClampNeg = s := nI_clamp (by omega)
      refine s241_4 hm.1 (fun h => ?_) (fun _ => vp_in_nI (by omega) (by decide)) (fun _ h => ?_) (fun _ h => ?_)
      · rw [hm.2.1, shW hW] at h
        exact ge_no (by omega) (by omega) h
      · rw [show nI s + Int32.ofInt 1 = nI (s + 1) from nI_1 s]
        refine ih (s + 1) v (by omega) ?_
        rw [hcs, Int32.le_iff_toInt_le, hv] at h
        have h : rwI M 77 s ≤ gre (rwI M 77) s := h
        unfold gre
        rw [if_neg (by omega)]
        exact hv
      · rw [show nI s + Int32.ofInt 1 = nI (s + 1) from nI_1 s]
        refine ih (s + 1) _ (by omega) ?_
        rw [hcs, Int32.le_iff_toInt_le, hv] at h
        have h : ¬ rwI M 77 s ≤ gre (rwI M 77) s := h
        unfold gre
        rw [if_pos (by omega), hcs]
        rfl
  exact loop (2 ^ dW D) 0 _ (Nat.zero_add _) rfl
def Q242 (W : Nat) (x : Int32) (M : aM) : Int32 → aM → Prop := fun y M' => M' = M ∧ ((y = 1 ∧ gre (rwI M 77) (2 ^ W) = x.toInt) ∨ (y = 0 ∧ gre (rwI M 77) (2 ^ W) ≠ x.toInt))
theorem c242 {l : aL} (hl0 : l.1.stackTraces = false) {M : aM} {N : Nat} {D : rD} {fx : Nat → Int} {x : Int32} (hm : mdl M N D fx) (hb : mdB N D) : AC l (pI pg 243) (fcI M (Q242 (dW D) x M)) 0 0 [.ref 58, .int x] SHF M := by
  refine fw_of hl0 ⟨by decide +kernel, by decide +kernel, by decide +kernel⟩ rfl ?_
  refine s242_0 hm.1 (Q241 (dW D) M) (c241 hl0 hm hb) (fun y M1 e1 q1 h => ?_) (fun y M1 e1 q1 h => ?_)
  · obtain ⟨rfl, q1⟩ := q1
    exact ⟨rfl, rfl, _, rfl, rfl, Or.inr ⟨rfl, fun e => h (Int32.toInt_inj.mp (q1.trans e))⟩⟩
  · obtain ⟨rfl, q1⟩ := q1
    exact ⟨rfl, rfl, _, rfl, rfl, Or.inl ⟨rfl, by rw [← q1, h]⟩⟩
theorem mdl.fr {M M' : aM} {N : Nat} {D : rD} {fx : Nat → Int} (h : mdl M N D fx) (h1 : M'.2.2 = M.2.2) (h2 : ∀ a k, a = 73 ∨ a = 74 ∨ a = 75 → M'.1 a k = M.1 a k) (h3 : M'.1 58 1 = M.1 58 1) (h4 : M'.1 58 2 = M.1 58 2) : mdl M' N D (rwI M' 76) := by
  obtain ⟨g1, g2, g3, g4, g5, g6, g7⟩ := h
  refine ⟨by rw [h1]; exact g1, by rw [h4]; exact g2, by rw [h3]; exact g3, fun p k => ?_, fun p => ?_, fun p w => ?_, fun w => rfl⟩
  · rw [h2 _ _ (Or.inl rfl)]; exact g4 p k
  · rw [h2 _ _ (Or.inr (Or.inl rfl))]; exact g5 p
  · rw [h2 _ _ (Or.inr (Or.inr rfl))]; exact g6 p w
theorem J209 {R : sR} {W : sW} {M0 M M1 : aM} (hR : okR R) (hJ : Jm R W M0 M) (hs : subW ([76], []) W = true) (e1 : M1.2.2 = M.2.2) (q : Q209 M M1) : Jm R W M0 M1 := by
  have h76 := rgA_ok hJ.1 hR.2.2.2.2.2.2.1
  refine Jm_call hJ hs (Jm_of ⟨hJ.1, hJ.2.1⟩ e1 (fun a k hw => q.2.2 a k ((wr_no hw).1 76 (by decide))) (fun a ha => ?_) (fun f hf => absurd hf List.not_mem_nil))
  have ha : a = 76 := by simpa using ha
  subst ha
  refine ⟨_, hR.2.2.2.2.2.2.2.2.1, fun k => ?_⟩
  by_cases e : k < 8
  · rw [q.1 k e]
    exact ⟨by decide, by decide⟩
  · rw [q.2.1 k (by omega)]
    exact h76 k
theorem J210 {R : sR} {W : sW} {M0 M M1 : aM} (hR : okR R) (hJ : Jm R W M0 M) (hs : subW ([77, 78], []) W = true) (e1 : M1.2.2 = M.2.2) (q : ∀ a k, a ≠ 77 → a ≠ 78 → M1.1 a k = M.1 a k) : Jm R W M0 M1 := by
  refine Jm_call hJ hs (Jm_of ⟨hJ.1, hJ.2.1⟩ e1 (fun a k hw => q a k ((wr_no hw).1 77 (by decide)) ((wr_no hw).1 78 (by decide))) (fun a ha => ?_) (fun f hf => absurd hf List.not_mem_nil))
  have ha : a = 77 ∨ a = 78 := by simpa using ha
  rcases ha with rfl | rfl
  · exact ⟨_, hR.2.2.2.2.2.2.2.2.2.1, fun k => in_full _⟩
  · exact ⟨_, hR.2.2.2.2.2.2.2.2.2.2.1, fun k => in_full _⟩
def en_week : cE := (240, [some (.inl (.ref 58))], [(58, 51, (0, 199))], ([73, 74, 75, 76, 77, 78, 85, 86, 87, 88], [(58, 51), (58, 52)]), [(none, [(58, 51, (1, 200), some (1, 1))])], [], 0, 0)
/-- what more is asked of a table of ranges -/
def okRw (R : sR) : Prop := okR R ∧ rgA R.1 88 = some (-1, 5) ∧ wcA R.1 88 (-1, 5) = true ∧ wcA R.1 86 (-1, 200) = true
theorem okRw_RR : okRw RR := ⟨okR_RR, by decide +kernel, by decide +kernel, by decide +kernel⟩
theorem okRw_RRS : okRw RRS := ⟨okR_RRS, by decide +kernel, by decide +kernel, by decide +kernel⟩
theorem z_6 : (Int8.ofInt 6).toInt32 = nI 6 := by decide
section WEEK
variable {l : aL} {R : sR} {P : aP} {M0 : aM} {wk lf : Nat} {one : Int32}
/-- the works' last weeks -/
theorem week_259 (hR : okRw R) (hwk : wk ≤ 199) (K : ∀ Mb : aM, Jm R (eW en_week) M0 Mb → Mb.1 58 51 = nI wk → AW l (pI pg 240) P 0 0 323 [(0, .ref 58), (1, .int one)] [] SHF Mb) (W : Nat) (hW : W ≤ 8) : ∀ (d w : Nat) (M : aM), w + d = W → M.1 58 2 = nI W → Jm R (eW en_week) M0 M → M.1 58 51 = nI wk → AW l (pI pg 240) P 0 0 259 [(4, .int (nI w)), (0, .ref 58), (1, .int one)] [] SHF M := by
  intro d
  induction d with
  | zero =>
    intro w M hw h2 hJ h51
    have hRM : ∀ e ∈ RM, M.2.2 e.1 e.2.1 = e.2.2 := fun e he => rgR_ok hJ.2.1 (hR.1.1 e he)
    have no : ¬ ¬ (M.1 58 2 ≤ nI w) := by
      rw [h2]
      exact fun h => h (nI_le (by omega) (by omega))
    exact s239_259 hRM (fun _ => K M hJ h51) (fun h => absurd h no) (fun h => absurd h no) (fun h => absurd h no) (fun h => absurd h no)
  | succ d ih =>
    intro w M hw h2 hJ h51
    have hRM : ∀ e ∈ RM, M.2.2 e.1 e.2.1 = e.2.2 := fun e he => rgR_ok hJ.2.1 (hR.1.1 e he)
    have hix : (Int8.ofInt 8).toInt32 * M.1 58 51 + nI w = nI (8 * wk + w) := by rw [z_8, h51, pk_mul, nI_add]
    have hc : (nI (8 * wk + w)).toNatClampNeg = 8 * wk + w := nI_clamp (by omega)
    have hw1 : nI w + Int32.ofInt 1 = nI (w + 1) := nI_1 w
    have r88 := rgA_ok hJ.1 hR.2.1 (8 * wk + w)
    have i2 : ¬ M.1 88 (8 * wk + w) = Int32.ofInt (-1) → ∃ q, q ≤ 5 ∧ M.1 88 (8 * wk + w) = nI q := by
      intro h
      rw [i_m1] at h
      have a1 := r88.1
      have a2 := r88.2
      simp only at a1 a2
      exact ⟨_, by omega, nI_self (by omega)⟩
    refine s239_259 hRM (fun h => ?_) (fun _ => ?_) (fun _ _ => ?_) (fun _ h4 => ?_) (fun _ h4 => ?_)
    · rw [h2] at h
      exact ge_no (by omega) (by omega) h
    · rw [hix]
      exact vp_in_nI (by omega) (by decide)
    · rw [hw1]
      exact ih (w + 1) M (by omega) h2 hJ h51
    · rw [hix, hc] at h4 ⊢
      obtain ⟨q, hq, e⟩ := i2 h4
      rw [e, z_8, pk_mul, nI_add]
      exact vp_in_nI (by omega) (by decide)
    · rw [hix, hc] at h4 ⊢
      obtain ⟨q, hq, e⟩ := i2 h4
      rw [e, z_8, pk_mul, nI_add, nI_clamp (by omega), hw1, h51]
      refine ih (w + 1) _ (by omega) h2 (J_setA hJ hR.2.2.2 (by decide) ?_) h51
      show -1 ≤ (nI wk).toInt ∧ (nI wk).toInt ≤ 200
      rw [nI_toInt (by omega)]
      omega
/-- the search for each work's doer -/
theorem week_107 (hl0 : l.1.stackTraces = false) (hR : okRw R) (hwk : wk ≤ 199) (hlf : lf < 64) (K : ∀ Mb : aM, Jm R (eW en_week) M0 Mb → Mb.1 58 51 = nI wk → AW l (pI pg 240) P 0 0 323 [(0, .ref 58), (1, .int one)] [] SHF Mb) {Ma : aM} (hJa : Jm R (eW en_week) M0 Ma) (h51a : Ma.1 58 51 = nI wk) : AW l (pI pg 240) P 0 0 107 [(0, .ref 58), (1, .int one), (2, .int (nI lf))] [] SHF Ma := by
  obtain ⟨hma, hb⟩ := mdl_of (left := lf) hR.1 ⟨hJa.1, hJa.2.1⟩ hlf
  generalize hN' : (Ma.1 58 1).toInt.toNat = N at hma hb
  generalize hD' : mkD Ma lf = D at hma hb
  have hL : dLf D = lf := by rw [← hD']; rfl
  have hW := hb.1
  have hN := hb.2.1
  have h256 := p2_8 hW
  -- the works' loop
  have l124 : ∀ (d w : Nat) (a : Int32) (M1 : aM), w + d = dW D → mdl M1 N D (rwI M1 76) → Jm R (eW en_week) M0 M1 → M1.1 58 51 = nI wk → (∀ x, w ≤ x → x < 8 → rwI M1 76 x = -1) → Best (Rch D (rwI M1 76) N) (dW D) (rwI M1 77) → gre (rwI M1 77) (2 ^ dW D) = a.toInt → AW l (pI pg 240) P 0 0 124 [(4, .int (nI w)), (3, .int a), (0, .ref 58), (1, .int one), (2, .int (nI lf))] [] SHF M1 := by
    intro d
    induction d with
    | zero =>
      intro w a M1 hw hm1 hJ1 h51 h5 h6 h7
      have no : ¬ ¬ (M1.1 58 2 ≤ nI w) := by
        rw [hm1.2.1]
        exact fun h => h (nI_le (by omega) (by omega))
      refine s239_124 hm1.1 (fun _ => ?_) (fun h => absurd h no)
      exact week_259 hR hwk K (dW D) hW (dW D) 0 M1 (Nat.zero_add _) hm1.2.1 hJ1 h51
    | succ d ih =>
      intro w a M1 hw hm1 hJ1 h51 h5 h6 h7
      refine s239_124 hm1.1 (fun h => ?_) (fun _ => ?_)
      · rw [hm1.2.1] at h
        exact ge_no (by omega) (by omega) h
      have hcw : (nI w).toNatClampNeg = w := nI_clamp (by omega)
      -- where the search ends
      have hps : ∃ ps, ps ≤ N ∧ (ps < N → (dLf D).testBit ps = true) ∧ ∀ f', Best (Rch D (fxU (rwI M1 76) w (if ps < N then (ps : Int) else 6)) N) (dW D) f' → gre f' (2 ^ dW D) = a.toInt := by
        rcases found_gre (w := w) (q := 6) (h5 w (Nat.le_refl _) (by omega)) (by omega) h6 with ⟨p0, g1, g2, g3⟩ | g
        · refine ⟨p0, by omega, fun _ => g2, fun f' h' => ?_⟩
          rw [if_pos g1] at h'
          exact (g3 f' h').trans h7
        · refine ⟨N, Nat.le_refl _, fun h => absurd h (Nat.lt_irrefl _), fun f' h' => ?_⟩
          rw [if_neg (Nat.lt_irrefl _)] at h'
          exact (g f' h').trans h7
      obtain ⟨ps, hps1, hps2, hps3⟩ := hps
      have nz : ¬ (Int32.ofInt 1 = 0) := by decide
      have hz : ¬ ¬ (Int32.ofInt 0 = 0) := fun h => h (by decide)
      -- it has been found
      have out : ∀ (p : Nat) (M5 : aM) (v : Nat), v ≤ 6 → mdl M5 N D (rwI M5 76) → Jm R (eW en_week) M0 M5 → M5.1 58 51 = nI wk → (∀ x, rwI M5 76 x = fxU (rwI M1 76) w (v : Int) x) → Best (Rch D (rwI M5 76) N) (dW D) (rwI M5 77) → gre (rwI M5 77) (2 ^ dW D) = a.toInt → AW l (pI pg 240) P 0 0 139 [(6, .int (Int32.ofInt 1)), (5, .int (nI p + Int32.ofInt 1)), (4, .int (nI w)), (3, .int a), (0, .ref 58), (1, .int one), (2, .int (nI lf))] [] SHF M5 := by
        intro p M5 v hv hm5 hJ5 g51 g4 g5 g6
        have hix : (Int8.ofInt 8).toInt32 * M5.1 58 51 + nI w = nI (8 * wk + w) := by rw [z_8, g51, pk_mul, nI_add]
        have hc : (nI (8 * wk + w)).toNatClampNeg = 8 * wk + w := nI_clamp (by omega)
        have gw : (M5.1 76 w).toInt = (v : Int) := by
          have := g4 w
          rw [fxU, if_pos rfl] at this
          exact this
        have go : ∀ y : Int32, -1 ≤ y.toInt ∧ y.toInt ≤ 5 → AW l (pI pg 240) P 0 0 124 [(4, .int (nI w + Int32.ofInt 1)), (3, .int a), (0, .ref 58), (1, .int one), (2, .int (nI lf))] [] SHF (aset M5 88 ((Int8.ofInt 8).toInt32 * M5.1 58 51 + nI w).toNatClampNeg (.int y)) := by
          intro y hy
          rw [hix, hc, show nI w + Int32.ofInt 1 = nI (w + 1) from nI_1 w]
          refine ih (w + 1) a _ (by omega) (hm5.fr rfl (fun a k ha => by rw [set_1, if_neg (by omega)]) rfl rfl) (J_setA hJ5 hR.2.2.1 (by decide) hy) g51 (fun x hx1 hx2 => ?_) g5 g6
          show rwI M5 76 x = -1
          rw [g4, fxU, if_neg (by omega)]
          exact h5 x (by omega) hx2
        rw [show nI p + Int32.ofInt 1 = nI (p + 1) from nI_1 p]
        refine s239_139 hm5.1 (fun _ => vp_in_nI (by omega) (by decide)) (fun _ _ => ?_) (fun _ h3 => go _ ?_) (fun _ _ => ?_) (fun _ h3 => go _ ⟨by decide, by decide⟩) (fun h => absurd h nz) (fun h => absurd h nz) (fun h => absurd h nz) (fun h => absurd h nz)
        · rw [hix]
          exact vp_in_nI (by omega) (by decide)
        · rw [hcw, z_6, i_nI (by omega), gw] at h3
          rw [hcw, gw]
          omega
        · rw [hix]
          exact vp_in_nI (by omega) (by decide)
      -- the search
      have l139 : ∀ (d2 p : Nat) (M2 : aM), p + d2 = ps → mdl M2 N D (rwI M2 76) → Jm R (eW en_week) M0 M2 → M2.1 58 51 = nI wk → (∀ x, x ≠ w → rwI M2 76 x = rwI M1 76 x) → AW l (pI pg 240) P 0 0 139 [(6, .int (Int32.ofInt 0)), (5, .int (nI p)), (4, .int (nI w)), (3, .int a), (0, .ref 58), (1, .int one), (2, .int (nI lf))] [] SHF M2 := by
        intro d2
        induction d2 with
        | zero =>
          intro p M2 hp hm2 hJ2 g51 g4
          have e : p = ps := by omega
          subst e
          -- behind the write of the one who is tried
          have tried : ∀ v : Nat, v ≤ 6 → (v : Int) = (if p < N then (p : Int) else 6) → AW l (pI pg 240) P 0 0 167 [(5, .int (nI p)), (4, .int (nI w)), (3, .int a), (0, .ref 58), (1, .int one), (2, .int (nI lf))] [] SHF (aset M2 76 (nI w).toNatClampNeg (.int (nI v))) := by
            intro v hv hve
            have e76 : rwI (aset M2 76 (nI w).toNatClampNeg (.int (nI v))) 76 = fxU (rwI M1 76) w (v : Int) := by
              funext x
              unfold rwI
              rw [hcw, set_1, if_pos rfl, fxU]
              by_cases e : x = w
              · rw [if_pos e, if_pos e, nI_toInt (by omega)]
              · rw [if_neg e, if_neg e]
                exact g4 x e
            have hmt : mdl (aset M2 76 (nI w).toNatClampNeg (.int (nI v))) N D (fxU (rwI M1 76) w (v : Int)) := by
              rw [← e76]
              exact hm2.fr rfl (fun a k ha => by rw [set_1, if_neg (by omega)]) rfl rfl
            have hJt : Jm R (eW en_week) M0 (aset M2 76 (nI w).toNatClampNeg (.int (nI v))) := J_setA hJ2 hR.1.2.2.2.2.2.2.2.2.1 (by decide) (by show -1 ≤ (nI v).toInt ∧ (nI v).toInt ≤ 6; rw [nI_toInt (by omega)]; omega)
            have behind : ∀ M5 : aM, M5.2.2 = (aset M2 76 (nI w).toNatClampNeg (.int (nI v))).2.2 → Q210 N D (fxU (rwI M1 76) w (v : Int)) (aset M2 76 (nI w).toNatClampNeg (.int (nI v))) M5 → mdl M5 N D (rwI M5 76) ∧ Jm R (eW en_week) M0 M5 ∧ M5.1 58 51 = nI wk ∧ (∀ x, rwI M5 76 x = fxU (rwI M1 76) w (v : Int) x) ∧ Best (Rch D (rwI M5 76) N) (dW D) (rwI M5 77) ∧ gre (rwI M5 77) (2 ^ dW D) = a.toInt := by
              intro M5 e5 q5
              have hm5 := hmt.keep e5 q5.2.2
              have s5 := hm5.self
              have b5 := q5.1
              refine ⟨by rw [← s5]; exact hm5, J210 hR.1 hJt (by decide) e5 q5.2.2, ?_, fun x => by rw [← s5], by rw [← s5]; exact b5, ?_⟩
              · rw [q5.2.2 58 51 (by decide) (by decide)]
                exact g51
              · rw [hve] at b5
                exact hps3 _ b5
            rw [show nI lf = nI (dLf D) by rw [hL]]
            refine s239_167 hmt.1 (Q210 N D (fxU (rwI M1 76) w (v : Int)) (aset M2 76 (nI w).toNatClampNeg (.int (nI v)))) (c210 hl0 hmt hb) (fun M5 => Q242 (dW D) a M5) (fun M5 e5 q5 h => ?_) (fun M5 e5 q5 h y M6 e6 q6 h9 => ?_) (fun M5 e5 q5 h y M6 e6 q6 h9 => ?_) (fun M5 e5 q5 h h9 => ?_) (fun M5 => Q242 (dW D) a M5) (fun M5 e5 q5 h h9 => ?_) (fun M5 e5 q5 h h8 y M6 e6 q6 h9 => ?_) (fun M5 e5 q5 h h8 y M6 e6 q6 h9 => ?_)
            all_goals obtain ⟨b1, b2, b3, b4, b5, b6⟩ := behind M5 e5 q5
            · exact c242 hl0 b1 hb
            · obtain ⟨rfl, ⟨q6, -⟩ | ⟨-, q6⟩⟩ := q6
              · rw [q6] at h9
                exact absurd h9 (by decide)
              · exact absurd b6 q6
            · obtain ⟨rfl, -⟩ := q6
              rw [hL]
              exact out p M6 v hv b1 b2 b3 b4 b5 b6
            · rw [b1.2.2.1] at h
              have hlt : p < N := by
                by_cases e : p < N
                · exact e
                · exact absurd (nI_le (by omega) (by omega)) h
              exact absurd ((bitT (by omega) (by omega)).mpr (hps2 hlt)) h9
            · exact c242 hl0 b1 hb
            · obtain ⟨rfl, ⟨q6, -⟩ | ⟨-, q6⟩⟩ := q6
              · rw [q6] at h9
                exact absurd h9 (by decide)
              · exact absurd b6 q6
            · obtain ⟨rfl, -⟩ := q6
              rw [hL]
              exact out p M6 v hv b1 b2 b3 b4 b5 b6
          refine s239_139 hm2.1 (fun h => absurd h hz) (fun h => absurd h hz) (fun h => absurd h hz) (fun h => absurd h hz) (fun h => absurd h hz) (fun _ _ => vp_in_nI (by omega) (by decide)) (fun _ h => ?_) (fun _ _ => vp_in_nI (by omega) (by decide)) (fun _ h => ?_)
          · rw [hm2.2.2.1, nI_leI (by omega) (by omega)] at h
            rw [z_6]
            exact tried 6 (Nat.le_refl _) (by rw [if_neg (by omega)]; rfl)
          · rw [hm2.2.2.1, nI_leI (by omega) (by omega)] at h
            exact tried p (by omega) (by rw [if_pos (by omega)])
        | succ d2 ih2 =>
          intro p M2 hp hm2 hJ2 g51 g4
          have hpN : p < N := by omega
          have e76 : rwI (aset M2 76 (nI w).toNatClampNeg (.int (nI p))) 76 = fxU (rwI M1 76) w (p : Int) := by
            funext x
            unfold rwI
            rw [hcw, set_1, if_pos rfl, fxU]
            by_cases e : x = w
            · rw [if_pos e, if_pos e, nI_toInt (by omega)]
            · rw [if_neg e, if_neg e]
              exact g4 x e
          have hmt : mdl (aset M2 76 (nI w).toNatClampNeg (.int (nI p))) N D (fxU (rwI M1 76) w (p : Int)) := by
            rw [← e76]
            exact hm2.fr rfl (fun a k ha => by rw [set_1, if_neg (by omega)]) rfl rfl
          have hJt : Jm R (eW en_week) M0 (aset M2 76 (nI w).toNatClampNeg (.int (nI p))) := J_setA hJ2 hR.1.2.2.2.2.2.2.2.2.1 (by decide) (by show -1 ≤ (nI p).toInt ∧ (nI p).toInt ≤ 6; rw [nI_toInt (by omega)]; omega)
          have behind : ∀ M5 : aM, M5.2.2 = (aset M2 76 (nI w).toNatClampNeg (.int (nI p))).2.2 → Q210 N D (fxU (rwI M1 76) w (p : Int)) (aset M2 76 (nI w).toNatClampNeg (.int (nI p))) M5 → mdl M5 N D (rwI M5 76) ∧ Jm R (eW en_week) M0 M5 ∧ M5.1 58 51 = nI wk ∧ (∀ x, rwI M5 76 x = fxU (rwI M1 76) w (p : Int) x) ∧ Best (Rch D (rwI M5 76) N) (dW D) (rwI M5 77) := by
            intro M5 e5 q5
            have hm5 := hmt.keep e5 q5.2.2
            have s5 := hm5.self
            have b5 := q5.1
            refine ⟨by rw [← s5]; exact hm5, J210 hR.1 hJt (by decide) e5 q5.2.2, ?_, fun x => by rw [← s5], by rw [← s5]; exact b5⟩
            rw [q5.2.2 58 51 (by decide) (by decide)]
            exact g51
          have on : ∀ M5 : aM, M5.2.2 = (aset M2 76 (nI w).toNatClampNeg (.int (nI p))).2.2 → Q210 N D (fxU (rwI M1 76) w (p : Int)) (aset M2 76 (nI w).toNatClampNeg (.int (nI p))) M5 → AW l (pI pg 240) P 0 0 139 [(6, .int (Int32.ofInt 0)), (5, .int (nI p + Int32.ofInt 1)), (4, .int (nI w)), (3, .int a), (0, .ref 58), (1, .int one), (2, .int (nI lf))] [] SHF M5 := by
            intro M5 e5 q5
            obtain ⟨b1, b2, b3, b4, b5⟩ := behind M5 e5 q5
            rw [show nI p + Int32.ofInt 1 = nI (p + 1) from nI_1 p]
            exact ih2 (p + 1) M5 (by omega) b1 b2 b3 (fun x hx => by rw [b4, fxU, if_neg hx])
          refine s239_139 hm2.1 (fun h => absurd h hz) (fun h => absurd h hz) (fun h => absurd h hz) (fun h => absurd h hz) (fun h => absurd h hz) (fun _ _ => vp_in_nI (by omega) (by decide)) (fun _ h => ?_) (fun _ _ => vp_in_nI (by omega) (by decide)) (fun _ h => ?_)
          · rw [hm2.2.2.1] at h
            exact ge_no hpN (by omega) h
          · refine s239_167 hmt.1 (Q210 N D (fxU (rwI M1 76) w (p : Int)) (aset M2 76 (nI w).toNatClampNeg (.int (nI p)))) (by rw [← hL]; exact c210 hl0 hmt hb) (fun M5 => Q242 (dW D) a M5) (fun M5 e5 q5 h => ?_) (fun M5 e5 q5 h y M6 e6 q6 h9 => ?_) (fun M5 e5 q5 h y M6 e6 q6 h9 => ?_) (fun M5 e5 q5 h h9 => on M5 e5 q5) (fun M5 => Q242 (dW D) a M5) (fun M5 e5 q5 h h9 => ?_) (fun M5 e5 q5 h h8 y M6 e6 q6 h9 => ?_) (fun M5 e5 q5 h h8 y M6 e6 q6 h9 => ?_)
            all_goals obtain ⟨b1, b2, b3, b4, b5⟩ := behind M5 e5 q5
            · exact c242 hl0 b1 hb
            · obtain ⟨rfl, -⟩ := q6
              exact on M6 e5 q5
            · rw [b1.2.2.1] at h
              exact ge_no hpN (by omega) h
            · exact c242 hl0 b1 hb
            · obtain ⟨rfl, -⟩ := q6
              exact on M6 e5 q5
            · obtain ⟨rfl, ⟨-, q6⟩ | ⟨q6, -⟩⟩ := q6
              · exact out p M6 p (by omega) b1 b2 b3 b4 b5 q6
              · exact absurd q6 h9
      exact l139 ps 0 M1 (Nat.zero_add _) hm1 hJ1 h51 (fun _ _ => rfl)
  have e209 : ∀ M1 : aM, M1.2.2 = Ma.2.2 → Q209 Ma M1 → mdl M1 N D (rwI M1 76) := fun M1 e1 q1 => hma.fr e1 (fun a k ha => q1.2.2 a k (by omega)) (q1.2.2 _ _ (by decide)) (q1.2.2 _ _ (by decide))
  have e210 : ∀ M1 : aM, M1.2.2 = Ma.2.2 → Q209 Ma M1 → ∀ M3 : aM, M3.2.2 = M1.2.2 → Q210 N D (rwI M1 76) M1 M3 → mdl M3 N D (rwI M1 76) := fun M1 e1 q1 M3 e3 q3 => (e209 M1 e1 q1).keep e3 q3.2.2
  refine s239_107 hma.1 (Q209 Ma) (c209 hl0 hma.1) (fun M1 => Q210 N D (rwI M1 76) M1) (fun M1 e1 q1 => by rw [← hL]; exact c210 hl0 (e209 M1 e1 q1) hb) (fun _ M3 => Q241 (dW D) M3) (fun M1 e1 q1 M3 e3 q3 => c241 hl0 (e210 M1 e1 q1 M3 e3 q3) hb) (fun M1 e1 q1 M3 e3 q3 y M5 e5 q5 => ?_)
  obtain ⟨rfl, hy⟩ := q5
  have hm3 := e210 M1 e1 q1 M5 e3 q3
  have s3 := hm3.self
  refine l124 (dW D) 0 y M5 (Nat.zero_add _) (by rw [← s3]; exact hm3) (J210 hR.1 (J209 hR.1 hJa (by decide) e1 q1) (by decide) e3 q3.2.2) ?_ (fun x _ hx => ?_) (by rw [← s3]; exact q3.1) hy.symm
  · rw [q3.2.2 58 51 (by decide) (by decide), q1.2.2 58 51 (by decide)]
    exact h51a
  · rw [← s3]
    show (M1.1 76 x).toInt = -1
    rw [q1.1 x hx]
    decide
end WEEK
