theorem pg_1 (id pc : Nat) (i : Instr) (n : Nat) (h : lk2 (eL id).2.2.2.2 (Nat.div pc 64) pc = some (i, n)) : decode (iC (eL id).2.2.2.1) pc = .ok (i, n) := by
  have o := eL_ok id
  generalize eL id = x at h o ⊢
  obtain ⟨l, h1, h2⟩ := lk2_mem h
  have h9 := o.1 _ h1
  have h10 := h9 _ h2
  exact h10
theorem pg_2 (id n ci k f : Nat) (h : lk2 fL (eL id).1 n = some (ci, k, f)) : okF (eL id).2.2.2.1 n ci k f := by
  have o := eL_ok id
  generalize eL id = x at h o ⊢
  obtain ⟨l, h1, h2⟩ := lk2_mem h
  exact fL_ok _ h1 _ o.2.1 _ h2
theorem pg_3 (id n mj kd np : Nat) (h : lk2 mL (eL id).1 n = some (mj, kd, np)) : okM (eL id).2.2.2.1 (pI pg mj) n kd np (pN pg mj) := by
  have o := eL_ok id
  generalize eL id = x at h o ⊢
  obtain ⟨l, h1, h2⟩ := lk2_mem h
  exact mL_ok _ h1 _ o.2.1 _ h2
theorem pg_4 (id n ci : Nat) (h : lk2 cL (eL id).1 n = some ci) : okC (eL id).2.2.2.1 n ci := by
  have o := eL_ok id
  generalize eL id = x at h o ⊢
  obtain ⟨l, h1, h2⟩ := lk2_mem h
  exact cL_ok _ h1 _ o.2.1 _ h2
theorem pg_5 (id n : Nat) (v : Int32) (h : lk2 kL (eL id).1 n = some v) : Cond.constant (iO (eL id).2.2.2.1) n v ∈ GW := by
  have o := eL_ok id
  generalize eL id = x at h o ⊢
  obtain ⟨l, h1, h2⟩ := lk2_mem h
  exact kL_ok _ h1 _ o.2.1 _ h2
theorem pg_6 (id n : Nat) (v : Int64) (h : lk2 jL (eL id).1 n = some v) : Cond.constantLong (iO (eL id).2.2.2.1) n v ∈ GW := by
  have o := eL_ok id
  generalize eL id = x at h o ⊢
  obtain ⟨l, h1, h2⟩ := lk2_mem h
  exact jL_ok _ h1 _ o.2.1 _ h2
theorem pg_ok : pgOk pg := ⟨pg_1, pg_2, pg_3, pg_4, pg_5, pg_6, fun id h => (eL_ok id).2.2 h⟩
