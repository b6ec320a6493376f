/-- what a cell's row holds, as numbers -/
def rwI (M : aM) (c : Nat) : Nat → Int := fun t => (M.1 c t).toInt
/-- 'fills': the best sums of those who are left -/
def Q210 (N : Nat) (D : rD) (fx : Nat → Int) (M : aM) : aM → Prop := fun M' => Best (Rch D fx N) (dW D) (rwI M' 77) ∧ (∀ t, t < 2 ^ dW D → rwI M' 77 t ≤ 960000) ∧ ∀ a k, a ≠ 77 → a ≠ 78 → M'.1 a k = M.1 a k
theorem le_of_lt' {x y : Int32} : x < y ↔ x.toInt < y.toInt := Int32.lt_iff_toInt_lt
theorem c210 {l : aL} (hl0 : l.1.stackTraces = false) {M : aM} {N : Nat} {D : rD} {fx : Nat → Int} (hm : mdl M N D fx) (hb : mdB N D) : AC l (pI pg 211) (fcV M (Q210 N D fx M)) 0 0 [.ref 58, .int (nI (dLf D))] SHF M := by
  refine fw_of hl0 ⟨by decide +kernel, by decide +kernel, by decide +kernel⟩ rfl ?_
  refine s210_0 hm.1 ?_
  have hW := hb.1
  have hN := hb.2.1
  have h256 := p2_8 hW
  have hLf := hb.2.2.2.2.2
  -- the people's loop
  have l35 : ∀ (d p : Nat) (M1 : aM), p + d = N → M1.2.2 = M.2.2 → (∀ a k, a ≠ 77 → a ≠ 78 → M1.1 a k = M.1 a k) → Best (Rch D fx p) (dW D) (rwI M1 77) → (∀ t, t < 2 ^ dW D → rwI M1 77 t ≤ 160000 * (p : Int)) → AW l (pI pg 211) (fcV M (Q210 N D fx M)) 0 0 35 [(2, .int (nI p)), (0, .ref 58), (1, .int (nI (dLf D)))] [] SHF M1 := by
    intro d
    induction d with
    | zero =>
      intro p M1 hp h1 h2 h3 h4
      have hm1 := hm.keep h1 h2
      have no : ¬ ¬ (M1.1 58 1 ≤ nI p) := by
        rw [hm1.2.2.1]
        exact fun h => h (nI_le (by omega) (by omega))
      refine s210_35 hm1.1 (fun _ => ?_) (fun h => absurd h no) (fun h => absurd h no)
      have e : p = N := by omega
      subst e
      exact ⟨rfl, h1, rfl, h3, fun t ht => by have := h4 t ht; omega, h2⟩
    | succ d ih =>
      intro p M1 hp h1 h2 h3 h4
      have hm1 := hm.keep h1 h2
      have hbt := bitF (t := dLf D) (w := p) (by omega) (by omega)
      have hp1 : nI p + Int32.ofInt 1 = nI (p + 1) := nI_1 p
      refine s210_35 hm1.1 (fun h => ?_) (fun _ hl => ?_) (fun _ hl => ?_)
      · rw [hm1.2.2.1] at h
        exact ge_no (by omega) (by omega) h
      rotate_left
      · rw [hbt] at hl
        rw [hp1]
        exact ih (p + 1) M1 (by omega) h1 h2 (h3.pass hl) (fun t ht => by have := h4 t ht; omega)
      · have hl : (dLf D).testBit p = true := by
          cases e : (dLf D).testBit p with
          | true => rfl
          | false => exact absurd (hbt.mpr e) hl
        -- the lists' loop
        have l81 : ∀ (d3 k : Nat) (M3 : aM), k + d3 = dN D p → M3.2.2 = M.2.2 → (∀ a k, a ≠ 77 → a ≠ 78 → M3.1 a k = M.1 a k) → (∀ t, M3.1 77 t = M1.1 77 t) → Best (Cnd D fx (rwI M1 77) p k 0) (dW D) (rwI M3 78) → (∀ t, t < 2 ^ dW D → rwI M3 78 t ≤ 160000 * ((p : Int) + 1)) → AW l (pI pg 211) (fcV M (Q210 N D fx M)) 0 0 81 [(3, .int (nI k)), (2, .int (nI p)), (0, .ref 58), (1, .int (nI (dLf D)))] [] SHF M3 := by
          intro d3
          have hcp : (nI p).toNatClampNeg = p := nI_clamp (by omega)
          have hn := hb.2.2.2.1 p
          induction d3 with
          | zero =>
            intro k M3 hk g1 g2 g3 g4 g5
            have hm3 := hm.keep g1 g2
            have no : ¬ ¬ (M3.1 74 (nI p).toNatClampNeg ≤ nI k) := by
              rw [hcp, hm3.2.2.2.2.1 p]
              exact fun h => h (nI_le (by omega) (by omega))
            refine s210_81 hm3.1 (vp_in_nI (by omega) (by decide)) (Q191 M3) (fun _ => c191 hl0 hm3.1) (fun _ M5 e5 q5 => ?_) (fun h => absurd h no) (fun _ _ => True) (fun h => absurd h no) (fun _ _ _ _ => True) (fun h => absurd h no) (fun h => absurd h no) (fun h => absurd h no)
            rw [hp1]
            have hk : k = dN D p := by omega
            subst hk
            have e78 : ∀ t, t < 2 ^ dW D → rwI M5 77 t = rwI M3 78 t := fun t ht => by
              unfold rwI
              rw [q5.1 t (by omega)]
            refine ih (p + 1) M5 (by omega) (e5.trans g1) (fun a c ha hc => (q5.2 a c ha).trans (g2 a c ha hc)) ?_ (fun t ht => by rw [e78 t ht]; have := g5 t ht; omega)
            exact (h3.next hl g4).eq e78
          | succ d3 ih3 =>
            intro k M3 hk g1 g2 g3 g4 g5
            have hm3 := hm.keep g1 g2
            have hk1 : nI k + Int32.ofInt 1 = nI (k + 1) := nI_1 k
            have hi : (Int16.ofInt 256).toInt32 * nI p + nI k = nI (256 * p + k) := by rw [z_256, pk_mul, nI_add]
            have hci : (nI (256 * p + k)).toNatClampNeg = 256 * p + k := nI_clamp (by omega)
            have hq := hb.2.2.1 p k
            have hLk : M3.1 73 ((Int16.ofInt 256).toInt32 * nI p + nI k).toNatClampNeg = nI (dL D p k) := by rw [hi, hci]; exact hm3.2.2.2.1 p k
            refine s210_81 hm3.1 (vp_in_nI (by omega) (by decide)) (fun _ => True) (fun h => ?_) (fun h => ?_) (fun _ => ?_) (Q211 D fx p (dL D p k) M3) (fun _ => ?_) (fun _ M7 => Q212 D p (dL D p k) M7) (fun _ y7 M7 e7 q7 h9 => ?_) (fun _ y7 M7 e7 q7 h9 y10 M10 e10 q10 => ?_) (fun _ y7 M7 e7 q7 h9 => ?_)
            · rw [hcp, hm3.2.2.2.2.1 p] at h
              exact ge_no (by omega) (by omega) h
            · rw [hcp, hm3.2.2.2.2.1 p] at h
              exact ge_no (by omega) (by omega) h
            · rw [hi]
              exact vp_in_nI (by omega) (by decide)
            · rw [hLk]
              exact c211 hl0 hm3 hb (by omega) hq
            · rw [hLk]
              obtain ⟨rfl, -⟩ := q7
              exact c212 hl0 hm3 hb (by omega) hq
            · obtain ⟨rfl, hy⟩ := q7
              obtain ⟨rfl, hv⟩ := q10
              have ho : okA (dW D) fx p (dL D p k) := by
                rcases hy with ⟨-, hy⟩ | ⟨hy, -⟩
                · exact hy
                · exact absurd hy h9
              have hg := gvS_in (hb.2.2.2.2.1 p) (dL D p k) (dW D)
              rw [hLk]
              -- the sets' loop
              have l130 : ∀ (d4 s : Nat) (M4 : aM), s + d4 = 2 ^ dW D → M4.2.2 = M.2.2 → (∀ a k, a ≠ 77 → a ≠ 78 → M4.1 a k = M.1 a k) → (∀ t, M4.1 77 t = M1.1 77 t) → Best (Cnd D fx (rwI M1 77) p k s) (dW D) (rwI M4 78) → (∀ t, t < 2 ^ dW D → rwI M4 78 t ≤ 160000 * ((p : Int) + 1)) → AW l (pI pg 211) (fcV M (Q210 N D fx M)) 0 0 130 [(6, .int (nI s)), (5, .int y10), (4, .int (nI (dL D p k))), (3, .int (nI k)), (2, .int (nI p)), (0, .ref 58), (1, .int (nI (dLf D)))] [] SHF M4 := by
                intro d4
                induction d4 with
                | zero =>
                  intro s M4 hs f1 f2 f3 f4 f5
                  have hm4 := hm.keep f1 f2
                  have no : ¬ ¬ (Int32.ofInt 1 <<< (M4.1 58 2 &&& 31) ≤ nI s) := by
                    rw [hm4.2.1, shW hW]
                    exact fun h => h (nI_le (by omega) (by omega))
                  refine s210_130 hm4.1 (fun _ => ?_) (fun h => absurd h no) (fun h => absurd h no) (fun h => absurd h no) (fun h => absurd h no) (fun h => absurd h no) (fun h => absurd h no)
                  rw [hk1]
                  exact ih3 (k + 1) M4 (by omega) f1 f2 f3 (f4.same (fun t v => Cnd.wrap (by omega))) f5
                | succ d4 ih4 =>
                  intro s M4 hs f1 f2 f3 f4 f5
                  have hm4 := hm.keep f1 f2
                  have hs1 : nI s + Int32.ofInt 1 = nI (s + 1) := nI_1 s
                  have hcs : (nI s).toNatClampNeg = s := nI_clamp (by omega)
                  have hlt : s < 2 ^ dW D := by omega
                  have hor : s ||| dL D p k < 256 := Nat.or_lt_two_pow (n := 8) (by omega) hq
                  have e_or : nI s ||| nI (dL D p k) = nI (s ||| dL D p k) := by
                    apply Int32.toBitVec_inj.mp
                    apply BitVec.eq_of_toNat_eq
                    rw [Int32.toBitVec_or, BitVec.toNat_or, pk_tn (by omega), pk_tn (by omega), pk_tn (by omega)]
                  have e_and : nI s &&& nI (dL D p k) = 0 ↔ s &&& dL D p k = 0 := by
                    have h8 : s &&& dL D p k < 256 := Nat.and_lt_two_pow (n := 8) _ hq
                    have e : nI s &&& nI (dL D p k) = nI (s &&& dL D p k) := by
                      apply Int32.toBitVec_inj.mp
                      apply BitVec.eq_of_toNat_eq
                      rw [Int32.toBitVec_and, BitVec.toNat_and, pk_tn (by omega), pk_tn (by omega), pk_tn (by omega)]
                    rw [e, show (0 : Int32) = nI 0 from rfl, nI_eq (by omega) (by omega)]
                  have e77 : (M4.1 77 (nI s).toNatClampNeg).toInt = rwI M1 77 s := by rw [hcs, f3 s]; rfl
                  have hco : (nI (s ||| dL D p k)).toNatClampNeg = s ||| dL D p k := nI_clamp (by omega)
                  have next : Best (Cnd D fx (rwI M1 77) p k (s + 1)) (dW D) (rwI M4 78) → AW l (pI pg 211) (fcV M (Q210 N D fx M)) 0 0 130 [(6, .int (nI s + Int32.ofInt 1)), (5, .int y10), (4, .int (nI (dL D p k))), (3, .int (nI k)), (2, .int (nI p)), (0, .ref 58), (1, .int (nI (dLf D)))] [] SHF M4 := by
                    intro h9
                    rw [hs1]
                    exact ih4 (s + 1) M4 (by omega) f1 f2 f3 h9 f5
                  have hb77 := h4 s hlt
                  have hsum : ¬ M4.1 77 (nI s).toNatClampNeg = Int32.ofInt (-1) → (M4.1 77 (nI s).toNatClampNeg + y10).toInt = rwI M1 77 s + gvS (dG D p) (dW D) (dL D p k) ∧ 0 ≤ rwI M1 77 s ∧ rwI M1 77 s ≠ -1 := by
                    intro h9
                    rw [i_m1, e77] at h9
                    have h0 : 0 ≤ rwI M1 77 s := by
                      rcases h3 s hlt with ⟨a, -⟩ | ⟨a, -⟩
                      · exact absurd a h9
                      · exact a
                    refine ⟨?_, h0, h9⟩
                    rw [i_add (by rw [e77, hv]; omega) (by rw [e77, hv]; omega), e77, hv]
                  refine s210_130 hm4.1 (fun h => ?_) (fun _ => vp_in_nI (by omega) (by decide)) (fun _ h5 => next ?_) (fun _ h5 h6 => next ?_) (fun _ _ _ => ?_) (fun _ h5 h6 h7 => ?_) (fun _ h5 h6 h7 => next ?_)
                  · rw [hm4.2.1, shW hW] at h
                    exact ge_no hlt (by omega) h
                  · rw [i_m1, e77] at h5
                    exact f4.same (fun t v => Cnd.pass (Or.inl h5))
                  · rw [e_and] at h6
                    exact f4.same (fun t v => Cnd.pass (Or.inr h6))
                  · rw [e_or]
                    exact vp_in_nI (by omega) (by decide)
                  · obtain ⟨s1, s2, s3⟩ := hsum h5
                    rw [e_and] at h6
                    rw [e_or, hco] at h7 ⊢
                    rw [le_of_lt', s1] at h7
                    rw [hs1]
                    have e9 : ∀ t, rwI (aset M4 78 (s ||| dL D p k) (.int (M4.1 77 (nI s).toNatClampNeg + y10))) 78 t = if t = s ||| dL D p k then rwI M1 77 s + gvS (dG D p) (dW D) (dL D p k) else rwI M4 78 t := by
                      intro t
                      unfold rwI
                      rw [set_1, if_pos rfl]
                      split
                      · exact s1
                      · rfl
                    refine ih4 (s + 1) _ (by omega) f1 (fun a c ha hc => ?_) (fun t => ?_) ?_ (fun t ht => ?_)
                    · rw [set_1, if_neg hc]
                      exact f2 a c ha hc
                    · rw [set_1, if_neg (by decide)]
                      exact f3 t
                    · refine f4.more (t0 := s ||| dL D p k) (v0 := rwI M1 77 s + gvS (dG D p) (dW D) (dL D p k)) (fun t v => Cnd.more hlt ho s3 h6) (by omega) (fun t ht => ?_)
                      rw [e9]
                      by_cases e : t = s ||| dL D p k
                      · subst e
                        rw [if_pos rfl, if_pos ⟨rfl, h7⟩]
                      · rw [if_neg e, if_neg (fun h => e h.1)]
                    · rw [e9]
                      split
                      · omega
                      · exact f5 t ht
                  · obtain ⟨s1, s2, s3⟩ := hsum h5
                    rw [e_and] at h6
                    rw [e_or, hco, le_of_lt', s1] at h7
                    refine f4.more (t0 := s ||| dL D p k) (v0 := rwI M1 77 s + gvS (dG D p) (dW D) (dL D p k)) (fun t v => Cnd.more hlt ho s3 h6) (by omega) (fun t ht => ?_)
                    by_cases e : t = s ||| dL D p k
                    · subst e
                      rw [if_neg (fun h => h7 h.2)]
                    · rw [if_neg (fun h => e h.1)]
              exact l130 (2 ^ dW D) 0 M10 (Nat.zero_add _) g1 g2 g3 g4 g5
            · obtain ⟨rfl, hy⟩ := q7
              have ho : ¬ okA (dW D) fx p (dL D p k) := by
                rcases hy with ⟨hy, -⟩ | ⟨-, hy⟩
                · rw [hy] at h9
                  exact absurd h9 (by decide)
                · exact hy
              rw [hk1]
              exact ih3 (k + 1) M7 (by omega) g1 g2 g3 (g4.same (fun t v => Cnd.skip ho)) g5
        have l56 : ∀ (d2 s : Nat) (M2 : aM), s + d2 = 2 ^ dW D → M2.2.2 = M.2.2 → (∀ a k, a ≠ 77 → a ≠ 78 → M2.1 a k = M.1 a k) → (∀ t, M2.1 77 t = M1.1 77 t) → (∀ t, t < s → rwI M2 78 t = -1) → AW l (pI pg 211) (fcV M (Q210 N D fx M)) 0 0 56 [(3, .int (nI s)), (2, .int (nI p)), (0, .ref 58), (1, .int (nI (dLf D)))] [] SHF M2 := by
          intro d2
          induction d2 with
          | zero =>
            intro s M2 hs g1 g2 g3 g4
            have hm2 := hm.keep g1 g2
            have no : ¬ ¬ (Int32.ofInt 1 <<< (M2.1 58 2 &&& 31) ≤ nI s) := by
              rw [hm2.2.1, shW hW]
              exact fun h => h (nI_le (by omega) (by omega))
            refine s210_56 hm2.1 (fun _ => ?_) (fun h => absurd h no) (fun h => absurd h no)
            refine l81 (dN D p) 0 M2 (Nat.zero_add _) g1 g2 g3 (fun t ht => Or.inl ⟨g4 t (by omega), fun v => Cnd.none⟩) (fun t ht => ?_)
            rw [g4 t (by omega)]
            omega
          | succ d2 ih2 =>
            intro s M2 hs g1 g2 g3 g4
            have hm2 := hm.keep g1 g2
            refine s210_56 hm2.1 (fun h => ?_) (fun _ => vp_in_nI (by omega) (by decide)) (fun _ => ?_)
            · rw [hm2.2.1, shW hW] at h
              exact ge_no (by omega) (by omega) h
            · rw [nI_clamp (by omega), show nI s + Int32.ofInt 1 = nI (s + 1) from nI_1 s]
              refine ih2 (s + 1) _ (by omega) g1 (fun a c ha hc => ?_) (fun t => ?_) (fun t ht => ?_)
              · rw [set_1, if_neg hc]
                exact g2 a c ha hc
              · rw [set_1, if_neg (by decide)]
                exact g3 t
              · unfold rwI
                rw [set_1, if_pos rfl]
                by_cases e : t = s
                · rw [if_pos e]
                  decide
                · rw [if_neg e]
                  exact g4 t (by omega)
        exact l56 (2 ^ dW D) 0 M1 (Nat.zero_add _) h1 h2 (fun _ => rfl) (fun t ht => absurd ht (Nat.not_lt_zero _))
  -- the first loop
  have l2 : ∀ (d s : Nat) (M2 : aM), s + d = 2 ^ dW D → M2.2.2 = M.2.2 → (∀ a k, a ≠ 77 → a ≠ 78 → M2.1 a k = M.1 a k) → (∀ t, t < s → rwI M2 77 t = if t = 0 then 0 else -1) → AW l (pI pg 211) (fcV M (Q210 N D fx M)) 0 0 2 [(2, .int (nI s)), (0, .ref 58), (1, .int (nI (dLf D)))] [] SHF M2 := by
    intro d
    induction d with
    | zero =>
      intro s M2 hs g1 g2 g4
      have hm2 := hm.keep g1 g2
      have no : ¬ ¬ (Int32.ofInt 1 <<< (M2.1 58 2 &&& 31) ≤ nI s) := by
        rw [hm2.2.1, shW hW]
        exact fun h => h (nI_le (by omega) (by omega))
      refine s210_2 hm2.1 (fun _ => ?_) (fun h => absurd h no) (fun h => absurd h no) (fun h => absurd h no) (fun h => absurd h no)
      refine l35 N 0 M2 (Nat.zero_add _) g1 g2 (Best.zero (fun t ht => g4 t (by omega))) (fun t ht => ?_)
      rw [g4 t (by omega)]
      split <;> omega
    | succ d ih2 =>
      intro s M2 hs g1 g2 g4
      have hm2 := hm.keep g1 g2
      have step : ∀ x : Int32, x.toInt = (if s = 0 then 0 else -1) → AW l (pI pg 211) (fcV M (Q210 N D fx M)) 0 0 2 [(2, .int (nI s + Int32.ofInt 1)), (0, .ref 58), (1, .int (nI (dLf D)))] [] SHF (aset M2 77 (nI s).toNatClampNeg (.int x)) := by
        intro x hx
        rw [nI_clamp (by omega), show nI s + Int32.ofInt 1 = nI (s + 1) from nI_1 s]
        refine ih2 (s + 1) _ (by omega) g1 (fun a c ha hc => ?_) (fun t ht => ?_)
        · rw [set_1, if_neg ha]
          exact g2 a c ha hc
        · unfold rwI
          rw [set_1, if_pos rfl]
          by_cases e : t = s
          · rw [if_pos e, hx, e]
          · rw [if_neg e]
            exact g4 t (by omega)
      have h0 : nI s = 0 ↔ s = 0 := by rw [show (0 : Int32) = nI 0 from rfl, nI_eq (by omega) (by omega)]
      refine s210_2 hm2.1 (fun h => ?_) (fun _ _ => vp_in_nI (by omega) (by decide)) (fun _ h3 => step _ ?_) (fun _ _ => vp_in_nI (by omega) (by decide)) (fun _ h3 => step _ ?_)
      · rw [hm2.2.1, shW hW] at h
        exact ge_no (by omega) (by omega) h
      · rw [h0] at h3
        rw [if_neg h3]
        decide
      · rw [h0] at h3
        rw [if_pos h3]
        decide
  exact l2 (2 ^ dW D) 0 M (Nat.zero_add _) rfl (fun _ _ _ _ => rfl) (fun t ht => absurd ht (Nat.not_lt_zero _))
