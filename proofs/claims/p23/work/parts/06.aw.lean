/-! An abstract memory over the machine: ints, longs, references by (cell, slot); cells are numbered from a base address on. -/
abbrev aM : Type := (Nat → Nat → Int32) × (Nat → Nat → Int64) × (Nat → Nat → Nat)
/-- a cell's shape: an object of a class by its number, or an array of a type and length -/
abbrev aS : Type := Nat ⊕ (FieldType × Nat)
/-- the environment: base address, addresses of outer things (the script, constant strings), classes and slots, the script -/
abbrev aG : Type := Nat × (Nat → Nat) × va_G × Nat × (Nat → Int32)
/-- an int that is not known, by a code: of the script's k-th int x: x itself, x >> s, (byte) (x >> s), x >> s & 255 -/
def evE (xs : Nat → Int32) (u : UInt32) : Int32 := match u.toNat / 256 with
  | 0 => xs (u.toNat % 8)
  | 1 => xs (u.toNat % 8) >>> (Int32.ofNat (u.toNat / 8 % 32) &&& 31)
  | 2 => (xs (u.toNat % 8) >>> (Int32.ofNat (u.toNat / 8 % 32) &&& 31)).toInt8.toInt32
  | 3 => (xs (u.toNat % 8) >>> (Int32.ofNat (u.toNat / 8 % 32) &&& 31)) &&& 255
  | _ => 0
/-- .float u is the int of the code u (the last code is a float: no class here has one) -/
def cvF (xs : Nat → Int32) (u : UInt32) : Value := if u = 4294967295 then .float 0 else .int (evE xs u)
def cv (G : aG) : Value → Value := fun v => match v with
  | .ref i => .ref (G.1 + i)
  | .retAddr k => .ref (G.2.1 k)
  | .int x => .int x
  | .long x => .long x
  | .float x => cvF G.2.2.2.2 x
  | .double x => .double x
  | .null => .null
def cr (b : Nat) (r : Nat) : Value := match r with
  | 0 => .null
  | j + 1 => .ref (b + j)
def sv (b : Nat) (M : aM) (i k : Nat) (ty : FieldType) : Value := match ty with
  | .long => .long (M.2.1 i k)
  | .object _ => cr b (M.2.2 i k)
  | .array _ => cr b (M.2.2 i k)
  | .byte => .int (M.1 i k)
  | .char => .int (M.1 i k)
  | .short => .int (M.1 i k)
  | .boolean => .int (M.1 i k)
  | .int => .int (M.1 i k)
  | .float => .float 0
  | .double => .double 0
def tyO (ci k : Nat) : FieldType := match ci with
  | 0 => tyX0 k
  | 1 => tyX1 k
  | 2 => tyX2 k
  | 3 => tyX3 k
  | 4 => tyX4 k
  | 5 => tyX5 k
  | 6 => tyX6 k
  | 7 => tyX7 k
  | 8 => tyX8 k
  | 9 => tyX9 k
  | _ => tyX10 k
def aC (G : aG) (M : aM) (U : State) (H : Heap) (i : Nat) (x : aS) : Prop := match x with
  | .inl ci => ∃ r : vw_C, vwCl[ci]? = some r ∧ t_OB (G.1 + i) (G.2.2.1.1 ci) r.2.2 (G.2.2.1.2 ci) H (fun k => sv G.1 M i k (tyO ci k))
  | .inr a => ∃ cA : ClassId, ArrOfT U cA a.1 ∧ H[G.1 + i]? = some (arrV cA a.2 (fun k => sv G.1 M i k a.1))
/-- the cells' shapes; first: no other cell has come behind them -/
abbrev aH : Type := Bool × List aS
def aW (G : aG) (sh : aH) (M : aM) (U : State) (H : Heap) : Prop := (G.1 + sh.2.length ≤ H.size ∧ (sh.1 = true → H.size = G.1 + sh.2.length ∧ ∀ i k : Nat, sh.2.length ≤ i → M.1 i k = 0 ∧ M.2.1 i k = 0 ∧ M.2.2 i k = 0)) ∧ ∀ (i : Nat) (x : aS), sh.2[i]? = some x → aC G M U H i x
theorem aC.kept {G : aG} {M : aM} {U : State} {H H1 : Heap} {i : Nat} {x : aS} (h : aC G M U H i x) (hq : H1[G.1 + i]? = H[G.1 + i]?) : aC G M U H1 i x := by
  cases x with
  | inl ci =>
    obtain ⟨r, h1, h2⟩ := h
    exact ⟨r, h1, h2.kept hq⟩
  | inr a =>
    obtain ⟨cA, h1, h2⟩ := h
    exact ⟨cA, h1, hq.trans h2⟩
theorem aC.moved {G : aG} {M : aM} {u U : State} {H : Heap} {i : Nat} {x : aS} (hv : u.vm.Alike U.vm) (h : aC G M u H i x) : aC G M U H i x := by
  cases x with
  | inl ci => exact h
  | inr a =>
    obtain ⟨cA, h1, h2⟩ := h
    exact ⟨cA, arrOfT_moved hv h1, h2⟩
theorem aW.moved {G : aG} {sh : aH} {M : aM} {u U : State} {H : Heap} (hv : u.vm.Alike U.vm) (h : aW G sh M u H) : aW G sh M U H := ⟨h.1, fun i x hx => (h.2 i x hx).moved hv⟩
/-- memory changed at one cell only -/
theorem aC.off {G : aG} {M M' : aM} {U : State} {H H1 : Heap} {i : Nat} {x : aS} (h : aC G M U H i x) (hq : H1[G.1 + i]? = H[G.1 + i]?) (h1 : ∀ k, M'.1 i k = M.1 i k) (h2 : ∀ k, M'.2.1 i k = M.2.1 i k) (h3 : ∀ k, M'.2.2 i k = M.2.2 i k) : aC G M' U H1 i x := by
  have e : ∀ k ty, sv G.1 M' i k ty = sv G.1 M i k ty := by
    intro k ty
    cases ty <;> simp [sv, h1, h2, h3]
  have hk := h.kept hq
  cases x with
  | inl ci =>
    obtain ⟨r, g1, g2⟩ := hk
    exact ⟨r, g1, g2.to (fun k _ => (e k _).symm)⟩
  | inr a =>
    obtain ⟨cA, g1, g2⟩ := hk
    refine ⟨cA, g1, ?_⟩
    rw [g2]
    congr 2
    funext k
    exact (e k _).symm
def upd2 {α : Type} (f : Nat → Nat → α) (i k : Nat) (x : α) : Nat → Nat → α := fun a c => if a = i then (if c = k then x else f a c) else f a c
theorem upd2_off {α : Type} {f : Nat → Nat → α} {i k : Nat} {x : α} {a : Nat} (h : a ≠ i) (c : Nat) : upd2 f i k x a c = f a c := by simp [upd2, h]
theorem upd2_at {α : Type} {f : Nat → Nat → α} {i k : Nat} {x : α} (c : Nat) : upd2 f i k x i c = if c = k then x else f i c := by simp [upd2]
/-- one cell set, the others kept -/
theorem aW.set {G : aG} {sh : aH} {M M' : aM} {U : State} {H H1 : Heap} {i : Nat} {x : aS} (h : aW G sh M U H) (hi : sh.2[i]? = some x) (hz : H1.size = H.size) (hq : ∀ q : Nat, q ≠ G.1 + i → H1[q]? = H[q]?) (hc : aC G M' U H1 i x)
    (h1 : ∀ a k, a ≠ i → M'.1 a k = M.1 a k) (h2 : ∀ a k, a ≠ i → M'.2.1 a k = M.2.1 a k) (h3 : ∀ a k, a ≠ i → M'.2.2 a k = M.2.2 a k) : aW G sh M' U H1 := by
  have hlt : i < sh.2.length := (List.getElem?_eq_some_iff.mp hi).1
  refine ⟨⟨by rw [hz]; exact h.1.1, fun hx => ⟨by rw [hz]; exact (h.1.2 hx).1, fun j k hj => ?_⟩⟩, fun j y hy => ?_⟩
  · have hne : j ≠ i := by omega
    rw [h1 j k hne, h2 j k hne, h3 j k hne]
    exact (h.1.2 hx).2 j k hj
  by_cases e : j = i
  · subst e
    cases hi.symm.trans hy
    exact hc
  · exact (h.2 j y hy).off (hq _ (by omega)) (fun k => h1 j k e) (fun k => h2 j k e) (fun k => h3 j k e)
