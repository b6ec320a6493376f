/-- the words that the tables give and a call keeps -/
def GW : List Cond := lw_tbl.filter goodWord
theorem GW_of {w : Cond} (h : w ∈ lw_tbl) (hg : goodWord w = true) : w ∈ GW := List.mem_filter.mpr ⟨h, hg⟩
theorem GW_in (c : Cond) {d : Cond} (hd : d ∈ GW) : GoodIn (c :: GW) (d :: GW) := by
  have hg : ∀ w ∈ GW, (w.onTables && w.keeps) = true ∨ ∃ ty, w = .arrayClass ty := fun w hw => good_of_word (List.mem_filter.mp hw).2
  intro w hw
  rcases List.mem_cons.mp hw with rfl | hw
  · exact ⟨List.mem_cons_of_mem _ hd, hg _ hd⟩
  · exact ⟨List.mem_cons_of_mem _ hw, hg _ hw⟩
/-- a method: name, code, locals, return type, own class, frames and locals' words that it needs, its table of handlers -/
abbrev aI : Type := MethodName × ByteArray × Nat × Option FieldType × String × Nat × Nat × List ExceptionTableEntry
abbrev iY (mi : aI) : MethodName := mi.1
abbrev iC (mi : aI) : ByteArray := mi.2.1
abbrev iL (mi : aI) : Nat := mi.2.2.1
abbrev iR (mi : aI) : Option FieldType := mi.2.2.2.1
abbrev iO (mi : aI) : String := mi.2.2.2.2.1
abbrev iF (mi : aI) : Nat := mi.2.2.2.2.2.1
abbrev iW (mi : aI) : Nat := mi.2.2.2.2.2.2.1
abbrev iT (mi : aI) : List ExceptionTableEntry := mi.2.2.2.2.2.2.2
