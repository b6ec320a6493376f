/-! the contracts that were taken as given hold: so all do -/
theorem word_ok {l : aL} {R : sR} (hl0 : l.1.stackTraces = false) (h0 : rgR R.2 2 0 = some 4) (h1 : rgF R.1 2 4 = some (0, 800)) (h2 : rgF R.1 2 5 = some (0, 800)) {x : Nat × List Int32} (hx : x ∈ aTxts) : cOk l pg R SHF (53, [some (.inl (.ref 2)), some (.inl (.retAddr x.1))], [], ([], []), [(some (some (.inr (0, 1))), [])], [], 0, 0) := by
  intro M0 av hav hJ hB
  obtain ⟨v0, v1, rfl, e0, e1⟩ := mL2_2 hav
  have e0 : v0 = .ref 2 := e0
  have e1 : v1 = .retAddr x.1 := e1
  subst e0
  subst e1
  dsimp only [eJ, eKc, eKs]
  refine (c53 hl0 hx (rgR_ok hJ.2 h0) (rgF_ok hJ.1 h1) (rgF_ok hJ.1 h2)).post hl0 (fun r sh' M' hp => ?_)
  obtain ⟨p1, p2, y, p3, p4, p5⟩ := hp
  subst p4
  subst p3
  refine ⟨p1, ⟨hJ.1, hJ.2, fun _ _ _ => rfl, rfl⟩, _, List.mem_cons_self, ⟨y, rfl, ?_⟩, fun q hq => absurd hq List.not_mem_nil⟩
  rcases p5 with ⟨rfl, -⟩ | ⟨rfl, -⟩ <;> exact ⟨by decide, by decide⟩
theorem ctA_by {l : aL} {R : sR} (hl0 : l.1.stackTraces = false) (h0 : rgR R.2 2 0 = some 4) (h1 : rgF R.1 2 4 = some (0, 800)) (h2 : rgF R.1 2 5 = some (0, 800)) (hR : okR R) (hw : cOk l pg R SHF en_week) : ∀ e ∈ ctA, cOk l pg R SHF e :=
  List.forall_mem_cons.mpr ⟨word_ok hl0 h0 h1 h2 (x := (2, [112, 101, 114, 115, 111, 110])) (by decide), List.forall_mem_cons.mpr ⟨word_ok hl0 h0 h1 h2 (x := (3, [100, 114, 97, 119, 110])) (by decide), List.forall_mem_cons.mpr ⟨word_ok hl0 h0 h1 h2 (x := (4, [119, 111, 114, 107])) (by decide), List.forall_mem_cons.mpr ⟨word_ok hl0 h0 h1 h2 (x := (5, [99, 97, 110])) (by decide), List.forall_mem_cons.mpr ⟨word_ok hl0 h0 h1 h2 (x := (6, [108, 101, 97, 114, 110])) (by decide), List.forall_mem_cons.mpr ⟨word_ok hl0 h0 h1 h2 (x := (7, [102, 111, 114, 103, 101, 116])) (by decide), List.forall_mem_cons.mpr ⟨lays0_ok hl0 hR, List.forall_mem_cons.mpr ⟨hw, fun _ h => absurd h List.not_mem_nil⟩⟩⟩⟩⟩⟩⟩⟩
theorem ctA_RR {l : aL} (hl0 : l.1.stackTraces = false) : ∀ e ∈ ctA, cOk l pg RR SHF e := ctA_by hl0 (by decide +kernel) (by decide +kernel) (by decide +kernel) okR_RR (week_okw hl0)
theorem ctA_RRS {l : aL} (hl0 : l.1.stackTraces = false) : ∀ e ∈ ctA, cOk l pg RRS SHF e := ctA_by hl0 (by decide +kernel) (by decide +kernel) (by decide +kernel) okR_RRS (week_okv hl0)
/-- every contract, in both tables -/
theorem all_RR {l : aL} (hl0 : l.1.stackTraces = false) : ∀ e ∈ ct_166, cOk l pg RR SHF e := ok_166 hl0 (ctA_RR hl0)
theorem all_RRS {l : aL} (hl0 : l.1.stackTraces = false) : ∀ e ∈ cts_166, cOk l pg RRS SHF e := oks_166 hl0 (ctA_RRS hl0)
