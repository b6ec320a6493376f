/-! rules behind the first ones: what the locals hold may be forgotten; more room than needed; array copies, Math, rows of booleans -/
section MORE
variable {l : aL} {mi : aI} {P : aP} {kc ks pc n : Nat} {lv lv' : List (Nat × Value)} {st : List Value} {sh : aH} {M : aM}
theorem AW.drop (h : ∀ x ∈ lv', x ∈ lv) (k : AW l mi P kc ks pc lv' st sh M) : AW l mi P kc ks pc lv st sh M := by
  intro p e s m args below meth c G H locs cells slots ls KC KS C E w hS hl hc hs
  refine k p e s m args below meth c G H locs cells slots ls KC KS C E w hS ⟨hl.1, hl.2.1, fun q hq => ?_⟩ hc hs
  obtain ⟨x, hx, rfl⟩ := List.mem_map.mp hq
  exact hl.2.2 _ (List.mem_map.mpr ⟨x, h x hx, rfl⟩)
theorem AW.mono {kc' ks' : Nat} (h1 : kc ≤ kc') (h2 : ks ≤ ks') (k : AW l mi P kc ks pc lv st sh M) : AW l mi P kc' ks' pc lv st sh M := by
  intro p e s m args below meth c G H locs cells slots ls KC KS C E w hS hl hc hs
  exact k p e s m args below meth c G H locs cells slots ls KC KS C E w hS hl (by omega) (by omega)
theorem AW.post {P' : aP} (h : ∀ r sh M, P r sh M → P' r sh M) (k : AW l mi P kc ks pc lv st sh M) : AW l mi P' kc ks pc lv st sh M := by
  intro p e s m args below meth c G H locs cells slots ls KC KS C E w hS hl hc hs T hT X
  obtain ⟨t, a1, o, b1, b2, b3⟩ := k p e s m args below meth c G H locs cells slots ls KC KS C E w hS hl hc hs T hT X
  refine ⟨t, a1, o, b1, b2, ?_⟩
  rcases b3 with ⟨⟨v, sh, M, q1, q2, q3, q4⟩, q5⟩ | ⟨q, e1, X9, ce, L, ⟨sh, M, g1, g2⟩, g3⟩
  · exact Or.inl ⟨⟨v, sh, M, q1, h _ _ _ q2, q3, q4⟩, q5⟩
  · exact Or.inr ⟨q, e1, X9, ce, L, ⟨sh, M, h _ _ _ g1, g2⟩, g3⟩
def acpy (M : aM) (i j sp dp n : Nat) : aM := (fun a c => if a = j then va_cpy (M.1 i) (M.1 j) sp dp n c else M.1 a c, M.2.1, M.2.2)
/-- the words of System.arraycopy -/
def cY (mi : aI) (n : Nat) : Prop := Cond.methodLink (iO mi) n arraycopyName ∈ GW ∧ Cond.native arraycopyName ∈ GW ∧ Cond.static arraycopyName ∈ GW ∧ Cond.initialized "java/lang/System" ∈ GW
theorem AW.copyi {i j n0 n1 : Nat} {sp dp k : Int32} (hd : decode (iC mi) pc = .ok (.invokestatic n, 3)) (hw : cY mi n) (hi : sh.2[i]? = some (.inr (.int, n0))) (hj : sh.2[j]? = some (.inr (.int, n1)))
    (h1 : ¬ sp < 0) (h2 : ¬ dp < 0) (h3 : ¬ k < 0) (h4 : sp.toNatClampNeg + k.toNatClampNeg ≤ n0) (h5 : dp.toNatClampNeg + k.toNatClampNeg ≤ n1) (hF : 1 ≤ iF mi) (hL : (st.map fun v => v.category).sum + 18 ≤ iW mi)
    (kk : AW l mi P kc ks (pc + 3) lv st sh (acpy M i j sp.toNatClampNeg dp.toNatClampNeg k.toNatClampNeg)) : AW l mi P kc ks pc lv (.int k :: .int dp :: .ref j :: .int sp :: .ref i :: st) sh M := by
  intro p e s m args below meth c G H locs cells slots ls KC KS C E w hS hl hc hs
  have hts := C.2.2.2.2.1
  obtain ⟨w1, w2, w3, w4⟩ := hw
  have nn : ∀ z : Int32, ¬ z < 0 → z.toInt = (z.toNatClampNeg : Int) := by
    intro z hz
    have hz0 : (0 : Int) ≤ z.toInt := by
      have := Int32.not_lt.mp hz
      simpa using Int32.le_iff_toInt_le.mp this
    show z.toInt = ((z.toInt.toNat : Nat) : Int)
    omega
  obtain ⟨c0, t0, hc0⟩ := w.2 i _ hi
  obtain ⟨c1, t1, hc1⟩ := w.2 j _ hj
  have hc0 : H[G.1 + i]? = some (arrV c0 n0 (fun k => .int (M.1 i k))) := hc0
  have hc1 : H[G.1 + j]? = some (arrV c1 n1 (fun k => .int (M.1 j k))) := hc1
  intro T hT X
  obtain ⟨-, k0, hk0, cm0, hkk0⟩ := t0 n0 (fun k => .int (M.1 i k))
  obtain ⟨-, k1, hk1, cm1, hkk1⟩ := t1 n1 (fun k => .int (M.1 j k))
  obtain ⟨vm', X', step⟩ := X.arraycopy C.1 C.2.2.2.1 (hts _ w1) (hts _ w2) (hts _ w3) (hts _ w4) (src := G.1 + i) (dst := G.1 + j) (cs := arrV c0 n0 (fun k => .int (M.1 i k))) (cd := arrV c1 n1 (fun k => .int (M.1 j k))) (srcPos := sp) (destPos := dp) (n := k) (by rw [hT]; exact hc0) (by rw [hT]; exact hc1)
    (fun _ h => by cases h) (fun _ h => by cases h) (fun h => by cases h) (fun h => by cases h) hk0 hk1 hkk0 hkk1 (by simp [refKind]) h1 h2 h3
    (by rw [nn sp h1, nn k h3, arrV_size]; omega)
    (by rw [nn dp h2, nn k h3, arrV_size]; omega)
    (fun vm₁ _ z hz => by
      have e9 : (arrV c0 n0 (fun k => .int (M.1 i k))).slots.getD (sp.toNatClampNeg + z) .null = .int (M.1 i (sp.toNatClampNeg + z)) := by
        rw [Array.getD_eq_getD_getElem?, arrV_read _ _ (by omega)]
        rfl
      rw [e9]
      exact ⟨rfl, trivial⟩)
    (g := F0 m pc ls (.int k :: .int dp :: .ref (G.1 + j) :: .int sp :: .ref (G.1 + i) :: st.map (cv G))) rfl (by rw [C.2.2.1]; exact hl.1) (rest := st.map (cv G)) rfl (by rw [C.2.1]; exact hd) hF (by
      show 2 * 0 + _ + (7 + 11) ≤ iW mi
      rw [lcv_cats]
      omega)
  have e1 : copied (arrV c0 n0 (fun k => .int (M.1 i k))) (arrV c1 n1 (fun k => .int (M.1 j k))) sp dp k = arrV c1 n1 (fun z => .int (va_cpy (M.1 i) (M.1 j) sp.toNatClampNeg dp.toNatClampNeg k.toNatClampNeg z)) := va_copied (fun z => .int z) c0 c1 (M.1 i) (M.1 j) h4
  rw [e1] at X' step
  have hlt : G.1 + j < H.size := (Array.getElem?_eq_some_iff.mp hc1).1
  obtain ⟨H1, hH1⟩ : ∃ H1 : Heap, H1 = H.setIfInBounds (G.1 + j) (arrV c1 n1 (fun z => .int (va_cpy (M.1 i) (M.1 j) sp.toNatClampNeg dp.toNatClampNeg k.toNatClampNeg z))) := ⟨_, rfl⟩
  have hheap : ((T.setVm vm').setCell (G.1 + j) (arrV c1 n1 (fun z => .int (va_cpy (M.1 i) (M.1 j) sp.toNatClampNeg dp.toNatClampNeg k.toNatClampNeg z)))).heap = H1 := by rw [hH1, ← hT]; rfl
  have oq : ∀ q : Nat, q ≠ G.1 + j → H1[q]? = H[q]? := fun q hq => by rw [hH1]; simp [Array.getElem?_setIfInBounds, Ne.symm hq]
  have hz : H1.size = H.size := by rw [hH1]; simp
  have hcell : H1[G.1 + j]? = some (arrV c1 n1 (fun z => .int (va_cpy (M.1 i) (M.1 j) sp.toNatClampNeg dp.toNatClampNeg k.toNatClampNeg z))) := by rw [hH1]; simp [Array.getElem?_setIfInBounds, hlt]
  have hw' : aW G sh (acpy M i j sp.toNatClampNeg dp.toNatClampNeg k.toNatClampNeg) s H1 := by
    refine w.set hj hz oq ⟨c1, t1, ?_⟩ (fun a c h => by simp [acpy, h]) (fun a c _ => rfl) (fun a c _ => rfl)
    rw [hcell]
    congr 2
    funext z
    simp [sv, acpy]
  obtain ⟨t, a1, b1⟩ := kk p e s m args below meth c G H1 _ cells slots ls KC KS C E hw' ⟨by rw [hz]; exact hS.1, fun q g1 g2 => by
      rw [oq q (fun e => g2 (by rw [e]; exact Nat.le_add_right _ _))]
      exact hS.2.1 q g1 g2, fun q hq => by
      rcases List.mem_append.mp hq with h | h
      · exact hS.2.2 q h
      · obtain ⟨z, -, hz⟩ := List.mem_map.mp h
        rw [← hz]
        exact Nat.le_add_right _ _⟩ hl hc hs _ hheap X'
  exact ⟨t, step t a1, b1⟩
theorem AW.zald {i n : Nat} {j : Int32} (hd : decode (iC mi) pc = .ok (.baload, 1)) (hi : sh.2[i]? = some (.inr (.boolean, n))) (hin : vp_in j n) (kk : AW l mi P kc ks (pc + 1) lv (.int (M.1 i j.toNatClampNeg) :: st) sh M) : AW l mi P kc ks pc lv (.int j :: .ref i :: st) sh M := by
  intro p e s m args below meth c G H locs cells slots ls KC KS C E w hS hl hc hs
  obtain ⟨cA, h1, h2⟩ := w.2 i _ hi
  have hlt : j.toNatClampNeg < n := Nat.not_le.mp fun q => hin (Or.inr q)
  exact W.zald (v := .int (M.1 i j.toNatClampNeg)) C.1 C.2.1 h2 (h1 _ _) (fun q => by cases q) (by show ¬ (j < 0 ∨ (arrV _ _ _).slots.size ≤ _); rw [arrV_size]; exact hin) (by show (arrV _ _ _).slots[_]? = _; rw [arrV_read _ _ hlt]; rfl) rfl rfl hd (kk p e s m args below meth c G H locs cells slots ls KC KS C E w hS hl hc hs)
theorem AW.zast {i n : Nat} {j : Int32} {x : Int32} (hd : decode (iC mi) pc = .ok (.bastore, 1)) (hi : sh.2[i]? = some (.inr (.boolean, n))) (hin : vp_in j n) (kk : AW l mi P kc ks (pc + 1) lv st sh (aset M i j.toNatClampNeg (.int (vp_nar .boolean x)))) : AW l mi P kc ks pc lv (.int x :: .int j :: .ref i :: st) sh M := by
  intro p e s m args below meth c G H locs cells slots ls KC KS C E w hS hl hc hs
  obtain ⟨cA, h1, h2⟩ := w.2 i _ hi
  refine W.zast C.1 C.2.1 h2 (h1 _ _) (fun q => by cases q) (by show ¬ (j < 0 ∨ (arrV _ _ _).slots.size ≤ _); rw [arrV_size]; exact hin) rfl rfl hd fun H1 e1 z oq => ?_
  have hS' : va_S (gA G) s.heap H1 (locs ++ [⟨G.1 + i, j.toNatClampNeg⟩]) := hS.put z oq (Nat.le_add_right _ _)
  refine kk p e s m args below meth c G H1 _ cells slots ls KC KS C E ?_ hS' hl hc hs
  refine w.set hi z oq ⟨cA, h1, ?_⟩ (fun a c h => aset_1 a c h) (fun a c h => aset_2 a c h) (fun a c h => aset_3 a c h)
  rw [e1, arrV_store]
  congr 2
  funext y
  by_cases hy : y = j.toNatClampNeg
  · subst hy
    simp [updV, aset, sv, upd2] <;> rfl
  · simp [updV, hy, aset, sv, upd2]
/-- the same values, written otherwise -/
theorem AW.cast {st' : List Value} (h : ∀ G, l.2 G → lcv G lv = lcv G lv' ∧ st.map (cv G) = st'.map (cv G)) (k : AW l mi P kc ks pc lv' st' sh M) : AW l mi P kc ks pc lv st sh M := by
  intro p e s m args below meth c G H locs cells slots ls KC KS C E w hS hl hc hs
  obtain ⟨h1, h2⟩ := h G E.2
  rw [h2]
  rw [h1] at hl
  exact k p e s m args below meth c G H locs cells slots ls KC KS C E w hS hl hc hs
/-- what is known of the script: its ints (as a name), its length, some ints, comparisons of unknown ones with numbers, masks of unknown ones -/
abbrev aSc : Type := Option Nat × (Nat → Option Int32) × List (UInt32 × _root_.Jvm.ClassFile.Cond × Int32 × Bool) × List (UInt32 × Int32 × Int32)
def brI (c : _root_.Jvm.ClassFile.Cond) (x y : Int32) : Bool := match c with
  | .eq => decide (x = y)
  | .ne => !decide (x = y)
  | .lt => decide (x < y)
  | .ge => decide (y ≤ x)
  | .gt => decide (y < x)
  | .le => decide (x ≤ y)
def scOk (sc : aSc) (xs : Nat → Int32) (G : aG) : Prop := G.2.2.2.2 = xs ∧ (∀ L, sc.1 = some L → G.2.2.2.1 = L) ∧ (∀ j x, sc.2.1 j = some x → xs j = x) ∧ (∀ q ∈ sc.2.2.1, brI q.2.1 (evE xs q.1) q.2.2.1 = q.2.2.2) ∧ ∀ q ∈ sc.2.2.2, evE xs q.1 &&& q.2.1 = q.2.2
theorem AW.sld {sc : aSc} {xs : Nat → Int32} {L : Nat} {j : Int32} (hG : ∀ G, l.2 G → scOk sc xs G) (hd : decode (iC mi) pc = .ok (.iaload, 1)) (hL : sc.1 = some L) (hin : vp_in j L) (kk : AW l mi P kc ks (pc + 1) lv (.int (xs j.toNatClampNeg) :: st) sh M) : AW l mi P kc ks pc lv (.int j :: .retAddr 0 :: st) sh M := by
  intro p e s m args below meth c G H locs cells slots ls KC KS C E w hS hl hc hs
  obtain ⟨g1, g2, -⟩ := hG G E.2
  have g2 := g2 _ hL
  obtain ⟨scr, h1, h2, h3, h4, h5⟩ := E.1.2.2.2.2.2.2.1
  have hb := E.1.2.2.2.2.2.2.2.1.1
  rw [g2] at h4 h5
  rw [g1] at h5
  have hlt : j.toNatClampNeg < L := Nat.not_le.mp fun q => hin (Or.inr q)
  have hH : H[G.2.1 0]? = some scr := (hS.2.1 _ (Nat.lt_of_lt_of_le hb E.1.2.1) (Nat.not_le.mpr hb)).trans h1
  exact W.iald (v := .int (xs j.toNatClampNeg)) C.1 C.2.1 hH h2 h3 (by rw [h4]; exact hin) (h5 _ hlt) rfl rfl hd (kk p e s m args below meth c G H locs cells slots ls KC KS C E w hS hl hc hs)
theorem AW.slen {sc : aSc} {xs : Nat → Int32} {L : Nat} (hG : ∀ G, l.2 G → scOk sc xs G) (hd : decode (iC mi) pc = .ok (.arraylength, 1)) (hL : sc.1 = some L) (kk : AW l mi P kc ks (pc + 1) lv (.int (Int32.ofNat L) :: st) sh M) : AW l mi P kc ks pc lv (.retAddr 0 :: st) sh M := by
  intro p e s m args below meth c G H locs cells slots ls KC KS C E w hS hl hc hs
  have hg := (hG G E.2).2.1 _ hL
  obtain ⟨scr, h1, h2, h3, h4, h5⟩ := E.1.2.2.2.2.2.2.1
  have hb := E.1.2.2.2.2.2.2.2.1.1
  rw [hg] at h4
  have hH : H[G.2.1 0]? = some scr := (hS.2.1 _ (Nat.lt_of_lt_of_le hb E.1.2.1) (Nat.not_le.mpr hb)).trans h1
  exact W.alen (n := Int32.ofNat L) C.1 C.2.1 hH h2 (by rw [h4] <;> rfl) rfl rfl hd (kk p e s m args below meth c G H locs cells slots ls KC KS C E w hS hl hc hs)
end MORE
