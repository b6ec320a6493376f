/-! fields, arrays, new cells -/
/-- a slot's value as an abstract one -/
def ag (M : aM) (i k : Nat) (ty : FieldType) : Value := match ty with
  | .long => .long (M.2.1 i k)
  | .object _ => (match M.2.2 i k with | 0 => .null | j + 1 => .ref j)
  | .array _ => (match M.2.2 i k with | 0 => .null | j + 1 => .ref j)
  | .byte => .int (M.1 i k)
  | .char => .int (M.1 i k)
  | .short => .int (M.1 i k)
  | .boolean => .int (M.1 i k)
  | .int => .int (M.1 i k)
  | .float => .float 4294967295
  | .double => .double 0
theorem cv_ag (G : aG) (M : aM) (i k : Nat) (ty : FieldType) : cv G (ag M i k ty) = sv G.1 M i k ty := by
  cases ty <;> try rfl
  all_goals
    simp only [ag, sv]
    generalize M.2.2 i k = z
    cases z <;> rfl
/-- a value written into a slot -/
def aset (M : aM) (i k : Nat) (v : Value) : aM := match v with
  | .int x => (upd2 M.1 i k x, M.2.1, M.2.2)
  | .long x => (M.1, upd2 M.2.1 i k x, M.2.2)
  | .ref j => (M.1, M.2.1, upd2 M.2.2 i k (j + 1))
  | .null => (M.1, M.2.1, upd2 M.2.2 i k 0)
  | _ => M
def akind (ty : FieldType) (v : Value) : Bool := match ty, v with
  | .long, .long _ => true
  | .object _, .ref _ => true
  | .object _, .null => true
  | .array _, .ref _ => true
  | .array _, .null => true
  | .int, .int _ => true
  | .byte, .int _ => true
  | .char, .int _ => true
  | .short, .int _ => true
  | .boolean, .int _ => true
  | _, _ => false
theorem aset_sv {G : aG} {M : aM} {i k : Nat} {ty : FieldType} {v : Value} (h : akind ty v = true) : sv G.1 (aset M i k v) i k ty = cv G v := by
  cases ty <;> cases v <;> first | (simp [akind] at h; done) | simp [aset, sv, cv, cr, upd2]
theorem aset_ne {G : aG} {M : aM} {i k j : Nat} {ty : FieldType} {v : Value} (h : j ≠ k) : sv G.1 (aset M i k v) i j ty = sv G.1 M i j ty := by
  cases v <;> cases ty <;> simp [aset, sv, upd2, h]
theorem aset_1 {M : aM} {i k : Nat} {v : Value} (a c : Nat) (h : a ≠ i) : (aset M i k v).1 a c = M.1 a c := by cases v <;> simp [aset, upd2, h]
theorem aset_2 {M : aM} {i k : Nat} {v : Value} (a c : Nat) (h : a ≠ i) : (aset M i k v).2.1 a c = M.2.1 a c := by cases v <;> simp [aset, upd2, h]
theorem aset_3 {M : aM} {i k : Nat} {v : Value} (a c : Nat) (h : a ≠ i) : (aset M i k v).2.2 a c = M.2.2 a c := by cases v <;> simp [aset, upd2, h]
/-- what is known of a class of the table -/
def clOk (ci : Nat) (q : vw_C) : Prop := (∀ w ∈ u_ws q.1 q.2.1 q.2.2, w ∈ GW) ∧ (∀ k, k < q.2.2 → parseFieldDescriptor (q.2.1 k).2.2.1 = some (tyO ci k)) ∧ ∀ a, a < q.2.2 → ∀ b, b < q.2.2 → a ≠ b → (q.2.1 a).2.1 ≠ (q.2.1 b).2.1
section AWmem
variable {l : aL} {mi : aI} {P : aP} {kc ks pc : Nat} {lv : List (Nat × Value)} {st : List Value} {sh : aH} {M : aM}
theorem AW.getf {n i ci k : Nat} {q : vw_C} {v : Value} (hd : decode (iC mi) pc = .ok (.getfield n, 3)) (hi : sh.2[i]? = some (.inl ci)) (hq : vwCl[ci]? = some q) (ho : clOk ci q) (hk : k < q.2.2) (hlink : Cond.fieldLink (iO mi) n (q.2.1 k).1 (q.2.1 k).2.1 (q.2.1 k).2.2.1 ∈ GW) (hv : ag M i k (tyO ci k) = v)
    (kk : AW l mi P kc ks (pc + 3) lv (v :: st) sh M) : AW l mi P kc ks pc lv (.ref i :: st) sh M := by
  intro p e s m args below meth c G H locs cells slots ls KC KS C E w hS hl hc hs
  subst hv
  have hts := C.2.2.2.2.1
  obtain ⟨r, h1, cell, q1, q2, q3, q4⟩ := w.2 i _ hi
  cases h1.symm.trans hq
  obtain ⟨hSl, hfc, kC, hkC, hkind⟩ := E.1.1.1 ci _ hq
  obtain ⟨cf, kf, fi, f, hff, hsl⟩ := hSl k hk
  refine W.getf C.1 C.2.1 C.2.2.2.1 (hts _ hlink) hff (u_facts hfc hkC (u_lays hts ho.1 hk) hff).1 q1 (by rw [q3]; exact fun h => by cases h) (v := cv G (ag M i k (tyO ci k))) ?_ rfl rfl hd (kk p e s m args below meth c G H locs cells slots ls KC KS C E w hS hl hc hs)
  rw [hsl, q4 k hk, cv_ag]
theorem AW.putf {n i ci k : Nat} {q : vw_C} {v : Value} (hd : decode (iC mi) pc = .ok (.putfield n, 3)) (hi : sh.2[i]? = some (.inl ci)) (hq : vwCl[ci]? = some q) (ho : clOk ci q) (hk : k < q.2.2) (hlink : Cond.fieldLink (iO mi) n (q.2.1 k).1 (q.2.1 k).2.1 (q.2.1 k).2.2.1 ∈ GW)
    (hfin : (q.2.1 k).2.2.2 = false ∨ ((iY mi).name = "<init>" ∧ (q.2.1 k).1 = iO mi)) (hkd : akind (tyO ci k) v = true) (hn : ∀ G, narrow (tyO ci k) (cv G v) = cv G v) (hf : ∀ G, fits (tyO ci k) (cv G v) = true)
    (kk : AW l mi P kc ks (pc + 3) lv st sh (aset M i k v)) : AW l mi P kc ks pc lv (v :: .ref i :: st) sh M := by
  intro p e s m args below meth c G H locs cells slots ls KC KS C E w hS hl hc hs
  have hts := C.2.2.2.2.1
  have hap := va_apart (own := iO mi) hts ho.1 (tyO ci) ho.2.1 ho.2.2 E.1.1 hq
  obtain ⟨r, h1, cell, q1, q2, q3, q4⟩ := w.2 i _ hi
  cases h1.symm.trans hq
  obtain ⟨hSl, hfc, kC, hkC, hkind⟩ := E.1.1.1 ci _ hq
  obtain ⟨cf, kf, fi, f, hff, hsl⟩ := hSl k hk
  have hst := (u_facts hfc hkC (u_lays hts ho.1 hk) hff).1
  have fin : ∀ H' : Heap, H'[G.1 + i]? = some (cell.setSlot f.slot (cv G v)) → H'.size = H.size → (∀ q : Nat, q ≠ G.1 + i → H'[q]? = H[q]?) → W p l.1 e { frames := iF mi, cells := KC, slots := KS, locals := iW mi } s m args below meth c H' (locs ++ [⟨G.1 + i, f.slot⟩]) cells slots (vx_MQ below (aQ G P) (aX G P) args s KC KS (gA G)) (F0 m (pc + 3) ls (st.map (cv G))) := by
    intro H' e1 e2 e3
    have hS' : va_S (gA G) s.heap H' (locs ++ [⟨G.1 + i, f.slot⟩]) := hS.put e2 e3 (Nat.le_add_right _ _)
    refine kk p e s m args below meth c G H' _ cells slots ls KC KS C E ?_ hS' hl hc hs
    refine w.set hi e2 e3 ⟨_, hq, ?_⟩ (fun a c h => aset_1 a c h) (fun a c h => aset_2 a c h) (fun a c h => aset_3 a c h)
    rw [hsl] at e1
    refine t_OB.to (V := updV (fun k => sv G.1 M i k (tyO ci k)) k (cv G v)) ⟨_, e1, q2, q3, t_set q4 hap hk _⟩ (fun j _ => ?_)
    by_cases hj : j = k
    · subst hj
      simp [updV, aset_sv hkd]
    · simp [updV, hj, aset_ne hj]
  by_cases hf0 : (q.2.1 k).2.2.2 = false
  · have hlay := hts _ (ho.1 _ (u_in_lay hk))
    unfold u_lay at hlay
    rw [if_neg (by rw [hf0]; decide)] at hlay
    have h6 := u_store hfc hkC hkind hlay hff (ho.2.1 k hk) (hn G) (hf G)
    exact W.putK C.1 C.2.1 (f := f) ⟨C.2.2.2.1, hts _ hlink, ⟨_, _, _, hff⟩, hst⟩ (by rw [q2]; exact h6) q1 q3 (by rw [hsl]; exact k2_hasslot (q4 k hk)) rfl rfl hd fin
  · have hf1 : (q.2.1 k).2.2.2 = true := by simpa using hf0
    obtain ⟨hnm, hdecl⟩ := hfin.resolve_left hf0
    have hlay := hts _ (ho.1 _ (u_in_lay hk))
    unfold u_lay at hlay
    rw [if_pos hf1] at hlay
    have hcf : m.cls = cf := by
      obtain ⟨_, _, c', _, _, _, -, -, hf', -, -, -, hown2, -⟩ := Cond.laysFinal_spec hlay
      have e1 : c' = cf := by have := hff.symm.trans hf'; simp at this; exact this.1.symm
      rw [hdecl] at hown2
      rw [← e1]; exact Option.some.inj (C.2.2.2.1.symm.trans hown2)
    have h6 := u_fits hfc hkC hkind (Or.inr hlay) hff (ho.2.1 k hk) (hn G) (hf G)
    exact W.putFinK C.1 C.2.1 C.2.2.2.1 (hts _ hlink) hff hst hcf (C.2.2.2.2.2.2.2.1 hnm) (by rw [q2]; exact h6) q1 q3 (by rw [hsl]; exact k2_hasslot (q4 k hk)) rfl rfl hd fin
theorem AW.iald {i n : Nat} {j : Int32} (hd : decode (iC mi) pc = .ok (.iaload, 1)) (hi : sh.2[i]? = some (.inr (.int, n))) (hin : vp_in j n) (kk : AW l mi P kc ks (pc + 1) lv (.int (M.1 i j.toNatClampNeg) :: st) sh M) : AW l mi P kc ks pc lv (.int j :: .ref i :: st) sh M := by
  intro p e s m args below meth c G H locs cells slots ls KC KS C E w hS hl hc hs
  obtain ⟨cA, h1, h2⟩ := w.2 i _ hi
  have hlt : j.toNatClampNeg < n := Nat.not_le.mp fun q => hin (Or.inr q)
  exact W.iald (v := .int (M.1 i j.toNatClampNeg)) C.1 C.2.1 h2 (h1 _ _) (fun q => by cases q) (by show ¬ (j < 0 ∨ (arrV _ _ _).slots.size ≤ _); rw [arrV_size]; exact hin) (by show (arrV _ _ _).slots[_]? = _; rw [arrV_read _ _ hlt]; rfl) rfl rfl hd (kk p e s m args below meth c G H locs cells slots ls KC KS C E w hS hl hc hs)
theorem AW.bald {i n : Nat} {j : Int32} (hd : decode (iC mi) pc = .ok (.baload, 1)) (hi : sh.2[i]? = some (.inr (.byte, n))) (hin : vp_in j n) (kk : AW l mi P kc ks (pc + 1) lv (.int (M.1 i j.toNatClampNeg) :: st) sh M) : AW l mi P kc ks pc lv (.int j :: .ref i :: st) sh M := by
  intro p e s m args below meth c G H locs cells slots ls KC KS C E w hS hl hc hs
  obtain ⟨cA, h1, h2⟩ := w.2 i _ hi
  have hlt : j.toNatClampNeg < n := Nat.not_le.mp fun q => hin (Or.inr q)
  exact W.bald (v := .int (M.1 i j.toNatClampNeg)) C.1 C.2.1 h2 (h1 _ _) (fun q => by cases q) (by show ¬ (j < 0 ∨ (arrV _ _ _).slots.size ≤ _); rw [arrV_size]; exact hin) (by show (arrV _ _ _).slots[_]? = _; rw [arrV_read _ _ hlt]; rfl) rfl rfl hd (kk p e s m args below meth c G H locs cells slots ls KC KS C E w hS hl hc hs)
theorem AW.lald {i n : Nat} {j : Int32} (hd : decode (iC mi) pc = .ok (.laload, 1)) (hi : sh.2[i]? = some (.inr (.long, n))) (hin : vp_in j n) (kk : AW l mi P kc ks (pc + 1) lv (.long (M.2.1 i j.toNatClampNeg) :: st) sh M) : AW l mi P kc ks pc lv (.int j :: .ref i :: st) sh M := by
  intro p e s m args below meth c G H locs cells slots ls KC KS C E w hS hl hc hs
  obtain ⟨cA, h1, h2⟩ := w.2 i _ hi
  have hlt : j.toNatClampNeg < n := Nat.not_le.mp fun q => hin (Or.inr q)
  exact W.lald (v := .long (M.2.1 i j.toNatClampNeg)) C.1 C.2.1 h2 (h1 _ _) (fun q => by cases q) (by show ¬ (j < 0 ∨ (arrV _ _ _).slots.size ≤ _); rw [arrV_size]; exact hin) (by show (arrV _ _ _).slots[_]? = _; rw [arrV_read _ _ hlt]; rfl) rfl rfl hd (kk p e s m args below meth c G H locs cells slots ls KC KS C E w hS hl hc hs)
theorem AW.iast {i n : Nat} {j : Int32} {x : Int32} (hd : decode (iC mi) pc = .ok (.iastore, 1)) (hi : sh.2[i]? = some (.inr (.int, n))) (hin : vp_in j n) (kk : AW l mi P kc ks (pc + 1) lv st sh (aset M i j.toNatClampNeg (.int x))) : AW l mi P kc ks pc lv (.int x :: .int j :: .ref i :: st) sh M := by
  intro p e s m args below meth c G H locs cells slots ls KC KS C E w hS hl hc hs
  obtain ⟨cA, h1, h2⟩ := w.2 i _ hi
  refine W.iast C.1 C.2.1 h2 (h1 _ _) (fun q => by cases q) (by show ¬ (j < 0 ∨ (arrV _ _ _).slots.size ≤ _); rw [arrV_size]; exact hin) rfl rfl hd fun H1 e1 z oq => ?_
  have hS' : va_S (gA G) s.heap H1 (locs ++ [⟨G.1 + i, j.toNatClampNeg⟩]) := hS.put z oq (Nat.le_add_right _ _)
  refine kk p e s m args below meth c G H1 _ cells slots ls KC KS C E ?_ hS' hl hc hs
  refine w.set hi z oq ⟨cA, h1, ?_⟩ (fun a c h => aset_1 a c h) (fun a c h => aset_2 a c h) (fun a c h => aset_3 a c h)
  rw [e1, arrV_store]
  congr 2
  funext y
  by_cases hy : y = j.toNatClampNeg
  · subst hy
    simp [updV, aset, sv, upd2]
  · simp [updV, hy, aset, sv, upd2]
theorem AW.bast {i n : Nat} {j : Int32} {x : Int32} (hd : decode (iC mi) pc = .ok (.bastore, 1)) (hi : sh.2[i]? = some (.inr (.byte, n))) (hin : vp_in j n) (kk : AW l mi P kc ks (pc + 1) lv st sh (aset M i j.toNatClampNeg (.int (vp_nar .byte x)))) : AW l mi P kc ks pc lv (.int x :: .int j :: .ref i :: st) sh M := by
  intro p e s m args below meth c G H locs cells slots ls KC KS C E w hS hl hc hs
  obtain ⟨cA, h1, h2⟩ := w.2 i _ hi
  refine W.bast C.1 C.2.1 h2 (h1 _ _) (fun q => by cases q) (by show ¬ (j < 0 ∨ (arrV _ _ _).slots.size ≤ _); rw [arrV_size]; exact hin) rfl rfl hd fun H1 e1 z oq => ?_
  have hS' : va_S (gA G) s.heap H1 (locs ++ [⟨G.1 + i, j.toNatClampNeg⟩]) := hS.put z oq (Nat.le_add_right _ _)
  refine kk p e s m args below meth c G H1 _ cells slots ls KC KS C E ?_ hS' hl hc hs
  refine w.set hi z oq ⟨cA, h1, ?_⟩ (fun a c h => aset_1 a c h) (fun a c h => aset_2 a c h) (fun a c h => aset_3 a c h)
  rw [e1, arrV_store]
  congr 2
  funext y
  by_cases hy : y = j.toNatClampNeg
  · subst hy
    simp [updV, aset, sv, upd2] <;> rfl
  · simp [updV, hy, aset, sv, upd2]
theorem AW.last {i n : Nat} {j : Int32} {x : Int64} (hd : decode (iC mi) pc = .ok (.lastore, 1)) (hi : sh.2[i]? = some (.inr (.long, n))) (hin : vp_in j n) (kk : AW l mi P kc ks (pc + 1) lv st sh (aset M i j.toNatClampNeg (.long x))) : AW l mi P kc ks pc lv (.long x :: .int j :: .ref i :: st) sh M := by
  intro p e s m args below meth c G H locs cells slots ls KC KS C E w hS hl hc hs
  obtain ⟨cA, h1, h2⟩ := w.2 i _ hi
  refine W.last C.1 C.2.1 h2 (h1 _ _) (fun q => by cases q) (by show ¬ (j < 0 ∨ (arrV _ _ _).slots.size ≤ _); rw [arrV_size]; exact hin) rfl rfl hd fun H1 e1 z oq => ?_
  have hS' : va_S (gA G) s.heap H1 (locs ++ [⟨G.1 + i, j.toNatClampNeg⟩]) := hS.put z oq (Nat.le_add_right _ _)
  refine kk p e s m args below meth c G H1 _ cells slots ls KC KS C E ?_ hS' hl hc hs
  refine w.set hi z oq ⟨cA, h1, ?_⟩ (fun a c h => aset_1 a c h) (fun a c h => aset_2 a c h) (fun a c h => aset_3 a c h)
  rw [e1, arrV_store]
  congr 2
  funext y
  by_cases hy : y = j.toNatClampNeg
  · subst hy
    simp [updV, aset, sv, upd2]
  · simp [updV, hy, aset, sv, upd2]
theorem AW.alen {i n : Nat} {ty : FieldType} (hd : decode (iC mi) pc = .ok (.arraylength, 1)) (hi : sh.2[i]? = some (.inr (ty, n))) (kk : AW l mi P kc ks (pc + 1) lv (.int (Int32.ofNat n) :: st) sh M) : AW l mi P kc ks pc lv (.ref i :: st) sh M := by
  intro p e s m args below meth c G H locs cells slots ls KC KS C E w hS hl hc hs
  obtain ⟨cA, h1, h2⟩ := w.2 i _ hi
  exact W.alen (n := Int32.ofNat n) C.1 C.2.1 h2 (h1 _ _) (by rw [arrV_size] <;> rfl) rfl rfl hd (kk p e s m args below meth c G H locs cells slots ls KC KS C E w hS hl hc hs)
theorem aC.grow {G : aG} {sh : aH} {M : aM} {U : State} {H H1 : Heap} {x : aS} (w : aW G sh M U H) (hx : sh.1 = true) (hz : H1.size = H.size + 1) (hk : ∀ q : Nat, q < H.size → H1[q]? = H[q]?) (hc : aC G M U H1 sh.2.length x) : aW G (true, sh.2 ++ [x]) M U H1 := by
  have hh := (w.1.2 hx).1
  refine ⟨⟨by simp; omega, fun _ => ⟨by simp; omega, fun i k hi => (w.1.2 hx).2 i k (by simp at hi; omega)⟩⟩, fun i y hy => ?_⟩
  have hy : (sh.2 ++ [x])[i]? = some y := hy
  by_cases hl : i < sh.2.length
  · rw [List.getElem?_append_left hl] at hy
    exact (w.2 i y hy).kept (hk _ (by omega))
  · rw [List.getElem?_append_right (by omega)] at hy
    have h0 : i - sh.2.length < 1 := (List.getElem?_eq_some_iff.mp hy).1
    have h1 : i = sh.2.length := by omega
    subst h1
    rw [Nat.sub_self] at hy
    cases hy
    exact hc
theorem AW.new {n ci : Nat} {q : vw_C} (hd : decode (iC mi) pc = .ok (.new n, 3)) (hx : sh.1 = true) (hq : vwCl[ci]? = some q) (ho : clOk ci q) (hcl : Cond.classLink (iO mi) n q.1 ∈ GW) (hinst : Cond.instantiable q.1 q.2.2 ∈ GW) (hini : Cond.initialized q.1 ∈ GW)
    (kk : AW l mi P kc ks (pc + 3) lv (.ref sh.2.length :: st) (true, sh.2 ++ [.inl ci]) M) : AW l mi P (kc + 1) (ks + q.2.2) pc lv st sh M := by
  intro p e s m args below meth c G H locs cells slots ls KC KS C E w hS hl hc hs
  have hts := C.2.2.2.2.1
  have hKn := E.1.1.1 ci _ hq
  have hh := (w.1.2 hx).1
  refine W.newcK C.1 C.2.1 C.2.2.2.1 (hts _ hcl) (hts _ hinst) (hts _ hini) rfl hd (show cells + 1 ≤ KC by omega) (show slots + q.2.2 ≤ KS by omega) hKn.2.1 rfl fun H1 kC hkC e1 z1 o1 => ?_
  have hS' : va_S (gA G) s.heap H1 locs := ⟨Nat.le_trans hS.1 (by omega), fun x h1 h2 => (o1 x (Nat.lt_of_lt_of_le h1 hS.1)).trans (hS.2.1 x h1 h2), hS.2.2⟩
  have hw : aW G (true, sh.2 ++ [.inl ci]) M s H1 := by
    refine aC.grow w hx z1 o1 ⟨_, hq, ?_⟩
    rw [← hh]
    refine (u_born (tyO ci) hts ho.1 hKn hkC e1 ho.2.1).to (fun k hk => ?_)
    obtain ⟨a1, a2, a3⟩ := (w.1.2 hx).2 sh.2.length k (Nat.le_refl _)
    generalize tyO ci k = ty
    cases ty <;> simp [defaultValue, sv, a1, a2, a3, cr]
  have h9 := kk p e s m args below meth c G H1 locs (cells + 1) (slots + q.2.2) ls KC KS C E hw hS' hl (by omega) (by omega)
  rw [List.map_cons, show cv G (.ref sh.2.length) = .ref H.size by show Value.ref _ = _; rw [hh]] at h9
  exact h9
theorem AW.newa {at_ : ArrayType} {ty : FieldType} {n : Int32} (hd : decode (iC mi) pc = .ok (.newarray at_, 2)) (hty : newarray.typeOf at_ = ty) (hx : sh.1 = true) (harr : Cond.arrayClass ty ∈ GW) (hn : ¬ n < 0) (hb : n.toNatClampNeg * componentBytes ty ≤ 536870912)
    (kk : AW l mi P kc ks (pc + 2) lv (.ref sh.2.length :: st) (true, sh.2 ++ [.inr (ty, n.toNatClampNeg)]) M) (hsv : ∀ b M' i k, (M'.1 i k = 0 ∧ M'.2.1 i k = 0 ∧ M'.2.2 i k = 0) → sv b M' i k ty = defaultValue ty) : AW l mi P (kc + 1) (ks + n.toNatClampNeg) pc lv (.int n :: st) sh M := by
  intro p e s m args below meth c G H locs cells slots ls KC KS C E w hS hl hc hs
  subst hty
  have hts := C.2.2.2.2.1
  have hh := (w.1.2 hx).1
  refine va_newaK C.1 C.2.1 (hts _ harr) rfl hd rfl hn rfl hb (show cells + 1 ≤ KC by omega) (show slots + n.toNatClampNeg ≤ KS by omega) rfl fun H1 cA e1 z1 o1 hAr hNm => ?_
  have hS' : va_S (gA G) s.heap H1 locs := ⟨Nat.le_trans hS.1 (by omega), fun x h1 h2 => (o1 x (Nat.lt_of_lt_of_le h1 hS.1)).trans (hS.2.1 x h1 h2), hS.2.2⟩
  have hw : aW G (true, sh.2 ++ [.inr (newarray.typeOf at_, n.toNatClampNeg)]) M s H1 := by
    refine aC.grow w hx z1 o1 ⟨cA, hAr, ?_⟩
    rw [← hh, e1]
    congr 2
    funext k
    exact (hsv _ _ _ _ ((w.1.2 hx).2 sh.2.length k (Nat.le_refl _))).symm
  have h9 := kk p e s m args below meth c G H1 locs (cells + 1) (slots + n.toNatClampNeg) ls KC KS C E hw hS' hl (by omega) (by omega)
  rw [List.map_cons, show cv G (.ref sh.2.length) = .ref H.size by show Value.ref _ = _; rw [hh]] at h9
  exact h9
end AWmem
