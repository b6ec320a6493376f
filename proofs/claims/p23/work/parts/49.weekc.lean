/-! weekMore: what stands before and behind the search, decided by the kernel; its contract (printed by wip/gen/t5.py) -/
def mtW : sMt := (1000240, 39, 3) :: mtL
theorem mtW_ok : mtOk pg mtW := List.forall_mem_cons.mpr ⟨fun id h => by
    exfalso
    have o := mt_own id
    rw [h] at o
    simp [oW] at o, mtL_ok⟩
def hd_107 : hdE := (107, [(0, some (.inl (.ref 58))), (1, some (.inr ((-1), 5))), (2, some (.inr (0, 63)))], [(58, 51, (0, 199), some (0, 0))], 0, [], [])
theorem week_by {l : aL} {R : sR} {ct : List cE} {hsA hsB : List hdE} {ysA ysB : List sKy} {nA nB : Nat} (hl0 : l.1.stackTraces = false) (hR : okRw R) (hct : ∀ e ∈ ct, cOk l pg R SHF e) (hA : mCF pg R SHF mtW ct en_week hsA [hd_107] ysA nA 0 [(0, some (.inl (.ref 58)))] = true) (hB : mCF pg R SHF mtW ct en_week hsB [] ysB nB 323 [(0, some (.inl (.ref 58))), (1, some (.inr ((-1), 5)))] = true) : cOk l pg R SHF en_week := by
  intro M0 av hav hJ hpre
  obtain ⟨v0, rfl, h0⟩ := mL2_1 hav
  have h0 : v0 = .ref 58 := h0
  subst h0
  refine fw_of hl0 ⟨by decide +kernel, by decide +kernel, by decide +kernel⟩ rfl ?_
  have h51 := hpre (58, 51, (0, 199)) List.mem_cons_self
  have w1 := h51.1
  have w2 := h51.2
  simp only at w1 w2
  refine from_ok (e := en_week) pg_ok mtW_ok hl0 hct hA (fun h hh L M hL hM _ hJm => ?_) (List.forall_mem_cons.mpr ⟨⟨_, rfl, rfl⟩, fun _ h => absurd h List.not_mem_nil⟩) hJ hpre
  have hh : h = hd_107 := by simpa using hh
  subst hh
  obtain ⟨u0, g0, e0⟩ := hL (0, some (.inl (.ref 58))) List.mem_cons_self
  obtain ⟨u1, g1, one, e1, i1⟩ := hL (1, some (.inr ((-1), 5))) (List.mem_cons_of_mem _ List.mem_cons_self)
  obtain ⟨u2, g2, x, e2, i2⟩ := hL (2, some (.inr (0, 63))) (List.mem_cons_of_mem _ (List.mem_cons_of_mem _ List.mem_cons_self))
  have e0 : u0 = .ref 58 := e0
  subst e0
  subst e1
  subst e2
  have i3 := i2.1
  have i4 := i2.2
  simp only at i3 i4
  obtain ⟨m1, m2⟩ := hM (58, 51, (0, 199), some (0, 0)) List.mem_cons_self
  have m3 := m2 (0, 0) rfl
  simp only at m3
  have hwk : M.1 58 51 = nI (M0.1 58 51).toInt.toNat := by
    have : (M.1 58 51).toInt = (M0.1 58 51).toInt := by omega
    rw [Int32.toInt_inj.mp this]
    exact nI_self w1
  refine AW.drop (lv' := [(0, .ref 58), (1, .int one), (2, .int (nI x.toInt.toNat))]) ?_ ?_
  · rw [← nI_self i3]
    exact List.forall_mem_cons.mpr ⟨lk_mem g0, List.forall_mem_cons.mpr ⟨lk_mem g1, List.forall_mem_cons.mpr ⟨lk_mem g2, fun _ h => absurd h List.not_mem_nil⟩⟩⟩
  · refine week_107 hl0 hR (wk := (M0.1 58 51).toInt.toNat) (by omega) (by omega) (fun Mb hJb hb51 => ?_) hJm hwk
    have hb0 : Mb.1 58 51 = M0.1 58 51 := by
      rw [hb51]
      exact (nI_self w1).symm
    have hk := from_ok (e := en_week) (M0 := Mb) (L0 := [(0, .ref 58), (1, .int one)]) pg_ok mtW_ok hl0 hct hB (fun _ h => absurd h List.not_mem_nil) (List.forall_mem_cons.mpr ⟨⟨_, rfl, rfl⟩, List.forall_mem_cons.mpr ⟨⟨_, rfl, one, rfl, i1⟩, fun _ h => absurd h List.not_mem_nil⟩⟩) ⟨hJb.1, hJb.2.1⟩ (List.forall_mem_cons.mpr ⟨by show inI (Mb.1 58 51) (0, 199); rw [hb0]; exact h51, fun _ h => absurd h List.not_mem_nil⟩)
    refine hk.post (fun r sh' M' hp => ?_)
    obtain ⟨p1, p2, p3⟩ := hp
    refine ⟨p1, ⟨p2.1, p2.2.1, fun a k hw => (p2.2.2.1 a k hw).trans (hJb.2.2.1 a k hw), p2.2.2.2.trans hJb.2.2.2⟩, ?_⟩
    cases r with
    | inl v =>
      obtain ⟨c, c1, c2, c3⟩ := p3
      refine ⟨c, c1, c2, fun q hq => ?_⟩
      have c4 := c3 q hq
      have hc : c = (none, [(58, 51, (1, 200), some (1, 1))]) := by simpa [en_week, eC] using c1
      subst hc
      have hq' : q = (58, 51, (1, 200), some (1, 1)) := by simpa using hq
      subst hq'
      refine ⟨c4.1, fun d hd => ?_⟩
      have c5 := c4.2 d hd
      simp only at c5 ⊢
      rw [hb0] at c5
      exact c5
    | inr X => exact p3
section CT
variable {l : aL}
/-- FullHouseModel.fits -/
def enw_1 : cE := (206, [some (.inl (.ref 58)), some (.inr (0, 255)), some (.inr ((-2147483648), 2147483647))], [], ([], []), [(some (some (.inr (0, 1))), [])], [], 0, 0)
def ctw_1 : List cE := enw_1 :: ([] : List cE)
set_option maxRecDepth 100000 in
theorem ckw_1 : mC pg RR SHF mtW ([] : List cE) enw_1 [(5, [(0, some (.inl (.ref 58))), (1, some (.inr (0, 255))), (2, some (.inr ((-2147483648), 2147483647))), (3, some (.inr ((-2147483648), 2147483647))), (4, some (.inr (0, 8)))], [], 80, [(-9), 0], []), (39, [(0, some (.inl (.ref 58))), (1, some (.inr (0, 255))), (2, some (.inr ((-2147483648), 2147483647))), (3, some (.inr ((-2147483648), 2147483647))), (4, some (.inr (0, 7))), (5, some (.inr (0, 7)))], [], 79, [(-9), (-1)], [])] [(0, 4, 0), (0, 5, 0)] 50 = true := by decide +kernel
theorem okw_1 (hl0 : l.1.stackTraces = false) : ∀ e ∈ ctw_1, cOk l pg RR SHF e := List.forall_mem_cons.mpr ⟨meth_ok pg_ok mtW_ok hl0 (fun _ h => absurd h List.not_mem_nil) ⟨by decide +kernel, by decide +kernel, by decide +kernel⟩ (by decide +kernel) ckw_1, (fun _ h => absurd h List.not_mem_nil)⟩
/-- FullHouseModel.listsOf -/
def enw_2 : cE := (205, [some (.inl (.ref 58)), some (.inr (1, 1)), some (.inr ((-2147483648), 2147483647))], [], ([73, 74], []), [(none, [])], [], 0, 0)
def ctw_2 : List cE := enw_2 :: ctw_1
set_option maxRecDepth 100000 in
theorem ckw_2 : mC pg RR SHF mtW ctw_1 enw_2 [(9, [(0, some (.inl (.ref 58))), (1, some (.inr (1, 1))), (2, some (.inr ((-2147483648), 2147483647))), (3, some (.inr (0, 256)))], [(74, 1, (0, 256), none)], 256, [(-1)], [((1, 74, 1), (0, 3, 0), (-256), 0)])] [(0, 3, 0)] 47 = true := by decide +kernel
theorem okw_2 (hl0 : l.1.stackTraces = false) : ∀ e ∈ ctw_2, cOk l pg RR SHF e := List.forall_mem_cons.mpr ⟨meth_ok pg_ok mtW_ok hl0 (okw_1 hl0) ⟨by decide +kernel, by decide +kernel, by decide +kernel⟩ (by decide +kernel) ckw_2, (okw_1 hl0)⟩
/-- FullHouseModel.listsOf -/
def enw_3 : cE := (205, [some (.inl (.ref 58)), some (.inr (0, 0)), some (.inr ((-2147483648), 2147483647))], [], ([73, 74], []), [(none, [])], [], 0, 0)
def ctw_3 : List cE := enw_3 :: ctw_2
set_option maxRecDepth 100000 in
theorem ckw_3 : mC pg RR SHF mtW ctw_2 enw_3 [(9, [(0, some (.inl (.ref 58))), (1, some (.inr (0, 0))), (2, some (.inr ((-2147483648), 2147483647))), (3, some (.inr (0, 256)))], [(74, 0, (0, 256), none)], 256, [(-1)], [((1, 74, 0), (0, 3, 0), (-256), 0)])] [(0, 3, 0)] 47 = true := by decide +kernel
theorem okw_3 (hl0 : l.1.stackTraces = false) : ∀ e ∈ ctw_3, cOk l pg RR SHF e := List.forall_mem_cons.mpr ⟨meth_ok pg_ok mtW_ok hl0 (okw_2 hl0) ⟨by decide +kernel, by decide +kernel, by decide +kernel⟩ (by decide +kernel) ckw_3, (okw_2 hl0)⟩
/-- FullHouseModel.listsOf -/
def enw_4 : cE := (205, [some (.inl (.ref 58)), some (.inr (2, 2)), some (.inr ((-2147483648), 2147483647))], [], ([73, 74], []), [(none, [])], [], 0, 0)
def ctw_4 : List cE := enw_4 :: ctw_3
set_option maxRecDepth 100000 in
theorem ckw_4 : mC pg RR SHF mtW ctw_3 enw_4 [(9, [(0, some (.inl (.ref 58))), (1, some (.inr (2, 2))), (2, some (.inr ((-2147483648), 2147483647))), (3, some (.inr (0, 256)))], [(74, 2, (0, 256), none)], 256, [(-1)], [((1, 74, 2), (0, 3, 0), (-256), 0)])] [(0, 3, 0)] 47 = true := by decide +kernel
theorem okw_4 (hl0 : l.1.stackTraces = false) : ∀ e ∈ ctw_4, cOk l pg RR SHF e := List.forall_mem_cons.mpr ⟨meth_ok pg_ok mtW_ok hl0 (okw_3 hl0) ⟨by decide +kernel, by decide +kernel, by decide +kernel⟩ (by decide +kernel) ckw_4, (okw_3 hl0)⟩
/-- FullHouseModel.listsOf -/
def enw_5 : cE := (205, [some (.inl (.ref 58)), some (.inr (3, 3)), some (.inr ((-2147483648), 2147483647))], [], ([73, 74], []), [(none, [])], [], 0, 0)
def ctw_5 : List cE := enw_5 :: ctw_4
set_option maxRecDepth 100000 in
theorem ckw_5 : mC pg RR SHF mtW ctw_4 enw_5 [(9, [(0, some (.inl (.ref 58))), (1, some (.inr (3, 3))), (2, some (.inr ((-2147483648), 2147483647))), (3, some (.inr (0, 256)))], [(74, 3, (0, 256), none)], 256, [(-1)], [((1, 74, 3), (0, 3, 0), (-256), 0)])] [(0, 3, 0)] 47 = true := by decide +kernel
theorem okw_5 (hl0 : l.1.stackTraces = false) : ∀ e ∈ ctw_5, cOk l pg RR SHF e := List.forall_mem_cons.mpr ⟨meth_ok pg_ok mtW_ok hl0 (okw_4 hl0) ⟨by decide +kernel, by decide +kernel, by decide +kernel⟩ (by decide +kernel) ckw_5, (okw_4 hl0)⟩
/-- FullHouseModel.listsOf -/
def enw_6 : cE := (205, [some (.inl (.ref 58)), some (.inr (4, 4)), some (.inr ((-2147483648), 2147483647))], [], ([73, 74], []), [(none, [])], [], 0, 0)
def ctw_6 : List cE := enw_6 :: ctw_5
set_option maxRecDepth 100000 in
theorem ckw_6 : mC pg RR SHF mtW ctw_5 enw_6 [(9, [(0, some (.inl (.ref 58))), (1, some (.inr (4, 4))), (2, some (.inr ((-2147483648), 2147483647))), (3, some (.inr (0, 256)))], [(74, 4, (0, 256), none)], 256, [(-1)], [((1, 74, 4), (0, 3, 0), (-256), 0)])] [(0, 3, 0)] 47 = true := by decide +kernel
theorem okw_6 (hl0 : l.1.stackTraces = false) : ∀ e ∈ ctw_6, cOk l pg RR SHF e := List.forall_mem_cons.mpr ⟨meth_ok pg_ok mtW_ok hl0 (okw_5 hl0) ⟨by decide +kernel, by decide +kernel, by decide +kernel⟩ (by decide +kernel) ckw_6, (okw_5 hl0)⟩
/-- FullHouseModel.listsOf -/
def enw_7 : cE := (205, [some (.inl (.ref 58)), some (.inr (5, 5)), some (.inr ((-2147483648), 2147483647))], [], ([73, 74], []), [(none, [])], [], 0, 0)
def ctw_7 : List cE := enw_7 :: ctw_6
set_option maxRecDepth 100000 in
theorem ckw_7 : mC pg RR SHF mtW ctw_6 enw_7 [(9, [(0, some (.inl (.ref 58))), (1, some (.inr (5, 5))), (2, some (.inr ((-2147483648), 2147483647))), (3, some (.inr (0, 256)))], [(74, 5, (0, 256), none)], 256, [(-1)], [((1, 74, 5), (0, 3, 0), (-256), 0)])] [(0, 3, 0)] 47 = true := by decide +kernel
theorem okw_7 (hl0 : l.1.stackTraces = false) : ∀ e ∈ ctw_7, cOk l pg RR SHF e := List.forall_mem_cons.mpr ⟨meth_ok pg_ok mtW_ok hl0 (okw_6 hl0) ⟨by decide +kernel, by decide +kernel, by decide +kernel⟩ (by decide +kernel) ckw_7, (okw_6 hl0)⟩
/-- FullHouseModel.drawn -/
def enw_8 : cE := (241, [some (.inl (.ref 58))], [], ([], [(58, 52)]), [(some (some (.inr ((-1), 5))), [])], [], 0, 0)
def ctw_8 : List cE := enw_8 :: ctw_7
set_option maxRecDepth 100000 in
theorem ckw_8 : mC pg RR SHF mtW ctw_7 enw_8 [(36, [(0, some (.inl (.ref 58))), (1, some (.inr (0, 999))), (2, some (.inr ((-2147483648), 999))), (3, some (.inr (0, 6)))], [], 6, [(-1)], [])] [(0, 3, 0)] 26 = true := by decide +kernel
theorem okw_8 (hl0 : l.1.stackTraces = false) : ∀ e ∈ ctw_8, cOk l pg RR SHF e := List.forall_mem_cons.mpr ⟨meth_ok pg_ok mtW_ok hl0 (okw_7 hl0) ⟨by decide +kernel, by decide +kernel, by decide +kernel⟩ (by decide +kernel) ckw_8, (okw_7 hl0)⟩
set_option maxRecDepth 100000 in
theorem ckw_A : mCF pg RR SHF mtW ctw_8 en_week [(31, [(0, some (.inl (.ref 58))), (1, some (.inr ((-1), 5))), (2, some (.inr (0, 63))), (3, some (.inr (0, 6)))], [(58, 51, (0, 199), some (0, 0))], 69, [(-10), 0], []), (53, [(0, some (.inl (.ref 58))), (1, some (.inr ((-1), 5))), (2, some (.inr (0, 63))), (3, some (.inr (0, 5))), (4, some (.inr (0, 8)))], [(58, 51, (0, 199), some (0, 0))], 68, [(-10), (-1)], [])] [hd_107] [(0, 3, 0), (0, 4, 0)] 32 0 [(0, some (.inl (.ref 58)))] = true := by decide +kernel
set_option maxRecDepth 100000 in
theorem ckw_B : mCF pg RR SHF mtW ctw_8 en_week [(336, [(0, some (.inl (.ref 58))), (1, some (.inr ((-1), 5))), (4, some (.inr (0, 6)))], [(58, 51, (0, 199), some (0, 0))], 69, [(-10), 0], []), (368, [(0, some (.inl (.ref 58))), (1, some (.inr ((-1), 5))), (4, some (.inr (0, 5))), (5, some (.inr (0, 8)))], [(58, 51, (0, 199), some (0, 0))], 68, [(-10), (-1)], [])] [] [(0, 4, 0), (0, 5, 0)] 39 323 [(0, some (.inl (.ref 58))), (1, some (.inr ((-1), 5)))] = true := by decide +kernel
theorem week_okw (hl0 : l.1.stackTraces = false) : cOk l pg RR SHF en_week := week_by hl0 okRw_RR (okw_8 hl0) ckw_A ckw_B
end CT
section CT
variable {l : aL}
set_option maxRecDepth 100000 in
theorem ckv_1 : mC pg RRS SHF mtW ([] : List cE) enw_1 [(5, [(0, some (.inl (.ref 58))), (1, some (.inr (0, 255))), (2, some (.inr ((-2147483648), 2147483647))), (3, some (.inr ((-2147483648), 2147483647))), (4, some (.inr (0, 8)))], [], 80, [(-9), 0], []), (39, [(0, some (.inl (.ref 58))), (1, some (.inr (0, 255))), (2, some (.inr ((-2147483648), 2147483647))), (3, some (.inr ((-2147483648), 2147483647))), (4, some (.inr (0, 7))), (5, some (.inr (0, 7)))], [], 79, [(-9), (-1)], [])] [(0, 4, 0), (0, 5, 0)] 50 = true := by decide +kernel
theorem okv_1 (hl0 : l.1.stackTraces = false) : ∀ e ∈ ctw_1, cOk l pg RRS SHF e := List.forall_mem_cons.mpr ⟨meth_ok pg_ok mtW_ok hl0 (fun _ h => absurd h List.not_mem_nil) ⟨by decide +kernel, by decide +kernel, by decide +kernel⟩ (by decide +kernel) ckv_1, (fun _ h => absurd h List.not_mem_nil)⟩
set_option maxRecDepth 100000 in
theorem ckv_2 : mC pg RRS SHF mtW ctw_1 enw_2 [(9, [(0, some (.inl (.ref 58))), (1, some (.inr (1, 1))), (2, some (.inr ((-2147483648), 2147483647))), (3, some (.inr (0, 256)))], [(74, 1, (0, 256), none)], 256, [(-1)], [((1, 74, 1), (0, 3, 0), (-256), 0)])] [(0, 3, 0)] 47 = true := by decide +kernel
theorem okv_2 (hl0 : l.1.stackTraces = false) : ∀ e ∈ ctw_2, cOk l pg RRS SHF e := List.forall_mem_cons.mpr ⟨meth_ok pg_ok mtW_ok hl0 (okv_1 hl0) ⟨by decide +kernel, by decide +kernel, by decide +kernel⟩ (by decide +kernel) ckv_2, (okv_1 hl0)⟩
set_option maxRecDepth 100000 in
theorem ckv_3 : mC pg RRS SHF mtW ctw_2 enw_3 [(9, [(0, some (.inl (.ref 58))), (1, some (.inr (0, 0))), (2, some (.inr ((-2147483648), 2147483647))), (3, some (.inr (0, 256)))], [(74, 0, (0, 256), none)], 256, [(-1)], [((1, 74, 0), (0, 3, 0), (-256), 0)])] [(0, 3, 0)] 47 = true := by decide +kernel
theorem okv_3 (hl0 : l.1.stackTraces = false) : ∀ e ∈ ctw_3, cOk l pg RRS SHF e := List.forall_mem_cons.mpr ⟨meth_ok pg_ok mtW_ok hl0 (okv_2 hl0) ⟨by decide +kernel, by decide +kernel, by decide +kernel⟩ (by decide +kernel) ckv_3, (okv_2 hl0)⟩
set_option maxRecDepth 100000 in
theorem ckv_4 : mC pg RRS SHF mtW ctw_3 enw_4 [(9, [(0, some (.inl (.ref 58))), (1, some (.inr (2, 2))), (2, some (.inr ((-2147483648), 2147483647))), (3, some (.inr (0, 256)))], [(74, 2, (0, 256), none)], 256, [(-1)], [((1, 74, 2), (0, 3, 0), (-256), 0)])] [(0, 3, 0)] 47 = true := by decide +kernel
theorem okv_4 (hl0 : l.1.stackTraces = false) : ∀ e ∈ ctw_4, cOk l pg RRS SHF e := List.forall_mem_cons.mpr ⟨meth_ok pg_ok mtW_ok hl0 (okv_3 hl0) ⟨by decide +kernel, by decide +kernel, by decide +kernel⟩ (by decide +kernel) ckv_4, (okv_3 hl0)⟩
set_option maxRecDepth 100000 in
theorem ckv_5 : mC pg RRS SHF mtW ctw_4 enw_5 [(9, [(0, some (.inl (.ref 58))), (1, some (.inr (3, 3))), (2, some (.inr ((-2147483648), 2147483647))), (3, some (.inr (0, 256)))], [(74, 3, (0, 256), none)], 256, [(-1)], [((1, 74, 3), (0, 3, 0), (-256), 0)])] [(0, 3, 0)] 47 = true := by decide +kernel
theorem okv_5 (hl0 : l.1.stackTraces = false) : ∀ e ∈ ctw_5, cOk l pg RRS SHF e := List.forall_mem_cons.mpr ⟨meth_ok pg_ok mtW_ok hl0 (okv_4 hl0) ⟨by decide +kernel, by decide +kernel, by decide +kernel⟩ (by decide +kernel) ckv_5, (okv_4 hl0)⟩
set_option maxRecDepth 100000 in
theorem ckv_6 : mC pg RRS SHF mtW ctw_5 enw_6 [(9, [(0, some (.inl (.ref 58))), (1, some (.inr (4, 4))), (2, some (.inr ((-2147483648), 2147483647))), (3, some (.inr (0, 256)))], [(74, 4, (0, 256), none)], 256, [(-1)], [((1, 74, 4), (0, 3, 0), (-256), 0)])] [(0, 3, 0)] 47 = true := by decide +kernel
theorem okv_6 (hl0 : l.1.stackTraces = false) : ∀ e ∈ ctw_6, cOk l pg RRS SHF e := List.forall_mem_cons.mpr ⟨meth_ok pg_ok mtW_ok hl0 (okv_5 hl0) ⟨by decide +kernel, by decide +kernel, by decide +kernel⟩ (by decide +kernel) ckv_6, (okv_5 hl0)⟩
set_option maxRecDepth 100000 in
theorem ckv_7 : mC pg RRS SHF mtW ctw_6 enw_7 [(9, [(0, some (.inl (.ref 58))), (1, some (.inr (5, 5))), (2, some (.inr ((-2147483648), 2147483647))), (3, some (.inr (0, 256)))], [(74, 5, (0, 256), none)], 256, [(-1)], [((1, 74, 5), (0, 3, 0), (-256), 0)])] [(0, 3, 0)] 47 = true := by decide +kernel
theorem okv_7 (hl0 : l.1.stackTraces = false) : ∀ e ∈ ctw_7, cOk l pg RRS SHF e := List.forall_mem_cons.mpr ⟨meth_ok pg_ok mtW_ok hl0 (okv_6 hl0) ⟨by decide +kernel, by decide +kernel, by decide +kernel⟩ (by decide +kernel) ckv_7, (okv_6 hl0)⟩
set_option maxRecDepth 100000 in
theorem ckv_8 : mC pg RRS SHF mtW ctw_7 enw_8 [(36, [(0, some (.inl (.ref 58))), (1, some (.inr (0, 999))), (2, some (.inr ((-2147483648), 999))), (3, some (.inr (0, 6)))], [], 6, [(-1)], [])] [(0, 3, 0)] 26 = true := by decide +kernel
theorem okv_8 (hl0 : l.1.stackTraces = false) : ∀ e ∈ ctw_8, cOk l pg RRS SHF e := List.forall_mem_cons.mpr ⟨meth_ok pg_ok mtW_ok hl0 (okv_7 hl0) ⟨by decide +kernel, by decide +kernel, by decide +kernel⟩ (by decide +kernel) ckv_8, (okv_7 hl0)⟩
set_option maxRecDepth 100000 in
theorem ckv_A : mCF pg RRS SHF mtW ctw_8 en_week [(31, [(0, some (.inl (.ref 58))), (1, some (.inr ((-1), 5))), (2, some (.inr (0, 63))), (3, some (.inr (0, 6)))], [(58, 51, (0, 199), some (0, 0))], 69, [(-10), 0], []), (53, [(0, some (.inl (.ref 58))), (1, some (.inr ((-1), 5))), (2, some (.inr (0, 63))), (3, some (.inr (0, 5))), (4, some (.inr (0, 8)))], [(58, 51, (0, 199), some (0, 0))], 68, [(-10), (-1)], [])] [hd_107] [(0, 3, 0), (0, 4, 0)] 32 0 [(0, some (.inl (.ref 58)))] = true := by decide +kernel
set_option maxRecDepth 100000 in
theorem ckv_B : mCF pg RRS SHF mtW ctw_8 en_week [(336, [(0, some (.inl (.ref 58))), (1, some (.inr ((-1), 5))), (4, some (.inr (0, 6)))], [(58, 51, (0, 199), some (0, 0))], 69, [(-10), 0], []), (368, [(0, some (.inl (.ref 58))), (1, some (.inr ((-1), 5))), (4, some (.inr (0, 5))), (5, some (.inr (0, 8)))], [(58, 51, (0, 199), some (0, 0))], 68, [(-10), (-1)], [])] [] [(0, 4, 0), (0, 5, 0)] 39 323 [(0, some (.inl (.ref 58))), (1, some (.inr ((-1), 5)))] = true := by decide +kernel
theorem week_okv (hl0 : l.1.stackTraces = false) : cOk l pg RRS SHF en_week := week_by hl0 okRw_RRS (okv_8 hl0) ckv_A ckv_B
end CT
