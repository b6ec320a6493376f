/-! worth of class and reference: no division by 0, no wrong index, every loop ends -/
def pcN (k : Nat) : Nat := ((List.range 8).filter (fun i => k.testBit i)).length
theorem bc_ok : ∀ k, k < 256 → bcE (nI k) = nI (pcN k) := by decide +kernel
theorem pc_lt : ∀ N, N < 7 → ∀ p, p < N → ∀ k, k < 64 → k < 2 ^ N → k.testBit p = false → pcN k + 1 ≤ N := by decide +kernel
theorem rem_abs {x y : Int32} (hy : ¬ y = 0) : (x - x / y * y).toInt.natAbs < y.toInt.natAbs := by
  have hy0 : y.toInt ≠ 0 := fun h => hy (Int32.toInt_inj.mp (h.trans (by decide)))
  have hm := Int.natAbs_tmod x.toInt y.toInt
  have hlt : (x.toInt.tmod y.toInt).natAbs < y.toInt.natAbs := by
    rw [hm]
    exact Nat.mod_lt _ (Int.natAbs_pos.mpr hy0)
  have hd := Int.tmod_add_tdiv_mul x.toInt y.toInt
  have l1 := lo_i y
  have l2 := hi_i y
  have e : (x - x / y * y).toInt = x.toInt.tmod y.toInt := by
    rw [Int32.toInt_sub, Int32.toInt_mul, Int32.toInt_div, Int.bmod_mul_bmod, Int.sub_bmod_bmod]
    have e2 : x.toInt - x.toInt.tdiv y.toInt * y.toInt = x.toInt.tmod y.toInt := by
      generalize x.toInt.tdiv y.toInt * y.toInt = z at hd
      omega
    rw [e2]
    exact bm32 (by omega) (by omega)
  rw [e]
  exact hlt
def fac : Nat → Nat
  | 0 => 1
  | n + 1 => fac n * (n + 1)
theorem z_100 : (Int8.ofInt 100).toInt32 = nI 100 := by decide
section WORTH
variable {l : aL} {M : aM}
theorem c21 (hl0 : l.1.stackTraces = false) (hJ : ∀ e ∈ RM, M.2.2 e.1 e.2.1 = e.2.2) {k : Nat} (hk : k < 256) : AC l (pI pg 21) (fcI M (fun y M' => M' = M ∧ y = nI (pcN k))) 0 0 [.int (nI k)] SHF M := by
  refine fw_of hl0 ⟨by decide +kernel, by decide +kernel, by decide +kernel⟩ rfl ?_
  exact s21_0 hJ ⟨rfl, rfl, _, rfl, rfl, bc_ok k hk⟩
theorem c32a (hl0 : l.1.stackTraces = false) (hJ : ∀ e ∈ RM, M.2.2 e.1 e.2.1 = e.2.2) {N : Nat} (hN : N ≤ 8) (h : M.1 4 0 = nI N) : AC l (pI pg 32) (fcI M (fun y M' => M' = M ∧ y = nI (2 ^ N - 1))) 0 0 [.ref 4] SHF M := by
  refine fw_of hl0 ⟨by decide +kernel, by decide +kernel, by decide +kernel⟩ rfl ?_
  exact sAPa_0 hJ ⟨rfl, rfl, _, rfl, rfl, by rw [h, fullW hN]⟩
theorem c32b (hl0 : l.1.stackTraces = false) (hJ : ∀ e ∈ RM, M.2.2 e.1 e.2.1 = e.2.2) {N : Nat} (hN : N ≤ 8) (h : M.1 17 0 = nI N) : AC l (pI pg 32) (fcI M (fun y M' => M' = M ∧ y = nI (2 ^ N - 1))) 0 0 [.ref 17] SHF M := by
  refine fw_of hl0 ⟨by decide +kernel, by decide +kernel, by decide +kernel⟩ rfl ?_
  exact sAPb_0 hJ ⟨rfl, rfl, _, rfl, rfl, by rw [h, fullW hN]⟩
theorem c141 (hl0 : l.1.stackTraces = false) (hJ : ∀ e ∈ RM, M.2.2 e.1 e.2.1 = e.2.2) {x y : Int32} : AC l (pI pg 141) (fcI M (fun y M' => M' = M ∧ ¬ y = 0)) 0 0 [.int x, .int y] SHF M := by
  refine fw_of hl0 ⟨by decide +kernel, by decide +kernel, by decide +kernel⟩ rfl ?_
  refine s141_0 hJ ?_
  have fin : ∀ x : Int32, fcI M (fun y M' => M' = M ∧ ¬ y = 0) (.inl (some (.int (if Int32.ofInt 1 < x then x else Int32.ofInt 1)))) SHF M := by
    intro x
    refine ⟨rfl, rfl, _, rfl, rfl, ?_⟩
    split
    · next h =>
        intro e
        rw [e] at h
        exact absurd h (by decide)
    · decide
  have loop : ∀ (d k : Nat) (x y : Int32), k + d = 100 → AW l (pI pg 141) (fcI M (fun y M' => M' = M ∧ ¬ y = 0)) 0 0 7 [(4, .int (nI k)), (3, .int y), (2, .int x)] [] SHF M := by
    intro d
    induction d with
    | zero =>
      intro k x y hk
      have no : ¬ ¬ ((Int8.ofInt 100).toInt32 ≤ nI k) := by
        rw [z_100]
        exact fun h => h (nI_le (by omega) (by omega))
      exact s141_7 hJ (fun _ => fin x) (fun h => absurd h no) (fun h => absurd h no) (fun h => absurd h no)
    | succ d ih =>
      intro k x y hk
      refine s141_7 hJ (fun _ => fin x) (fun _ _ => fin x) (fun _ h => h) (fun _ _ => ?_)
      rw [show nI k + Int32.ofInt 1 = nI (k + 1) from nI_1 k]
      exact ih (k + 1) _ _ (by omega)
  exact loop 100 0 x y rfl
theorem c228 (hl0 : l.1.stackTraces = false) (hJ : ∀ e ∈ RM, M.2.2 e.1 e.2.1 = e.2.2) {n : Nat} (hn : n ≤ 6) : AC l (pI pg 229) (fcI M (fun y M' => M' = M ∧ y = nI (fac n))) 0 0 [.int (nI n)] SHF M := by
  refine fw_of hl0 ⟨by decide +kernel, by decide +kernel, by decide +kernel⟩ rfl ?_
  refine s228_0 hJ ?_
  have h1 : ∀ n, n < 2 → fac n = 1 := by decide
  have loop : ∀ (d k : Nat), 2 ≤ k → k + d = 7 → k ≤ n + 1 ∨ k = 2 → AW l (pI pg 229) (fcI M (fun y M' => M' = M ∧ y = nI (fac n))) 0 0 4 [(2, .int (nI k)), (1, .int (nI (fac (k - 1)))), (0, .int (nI n))] [] SHF M := by
    intro d
    induction d with
    | zero =>
      intro k h2 hk hn2
      refine s228_4 hJ (fun h => ?_) (fun h => absurd (nI_lt (by omega) (by omega)) h)
      refine ⟨rfl, rfl, _, rfl, rfl, ?_⟩
      rw [show k - 1 = n by omega]
    | succ d ih =>
      intro k h2 hk hn2
      refine s228_4 hJ (fun h => ?_) (fun h => ?_)
      · rw [nI_ltI (by omega) (by omega)] at h
        refine ⟨rfl, rfl, _, rfl, rfl, ?_⟩
        by_cases e : n < 2
        · rw [h1 n e, show k - 1 = 1 by omega]
          rfl
        · rw [show k - 1 = n by omega]
      · rw [nI_ltI (by omega) (by omega)] at h
        rw [show nI k + Int32.ofInt 1 = nI (k + 1) from nI_1 k, pk_mul]
        have e : fac (k - 1) * k = fac (k + 1 - 1) := by
          obtain ⟨j, rfl⟩ : ∃ j, k = j + 1 := ⟨k - 1, by omega⟩
          rfl
        rw [e]
        exact ih (k + 1) (by omega) (by omega) (Or.inl (by omega))
  exact loop 5 2 (by omega) rfl (Or.inr rfl)
theorem w227 {P : aP} {wh al sm : Int32} (hJ : ∀ e ∈ RM, M.2.2 e.1 e.2.1 = e.2.2) (hP : ∀ v : Int32, P (.inl (some (.int v))) SHF M) : ∀ (b : Nat) (x y : Int32), y.toInt.natAbs < b → ¬ x = 0 → AW l (pI pg 228) P 0 0 169 [(6, .int y), (5, .int x), (4, .int al), (3, .int sm), (2, .int wh)] [] SHF M := by
  intro b
  induction b with
  | zero =>
    intro x y h
    exact absurd h (Nat.not_lt_zero _)
  | succ b ih =>
    intro x y h hx
    refine s227_169 hJ (fun _ _ => hx) (fun _ _ => hP _) (fun _ _ => hx) (fun _ _ => hP _) (fun h => h) (fun hy => ?_)
    have := rem_abs (x := x) hy
    exact ih y _ (by omega) hy
end WORTH
/-- a contract of the analyzer as the walker wants it -/
theorem fcI_of {l : aL} {R : sR} {e : cE} {q : iI} {M : aM} {av : List Value} (hl0 : l.1.stackTraces = false) (h : cOk l pg R SHF e) (hC : eC e = [(some (some (.inr q)), [])]) (hX : eX e = []) (hk : eKc e = 0) (hs : eKs e = 0) (hA : mL2 av (eA e)) (hJ : JR R M) (hB : ∀ q ∈ eB e, inI (M.1 q.1 q.2.1) q.2.2) : AC l (pI pg (eJ e)) (fcI M (fun y M' => inI y q ∧ Jm R (eW e) M M')) 0 0 av SHF M := by
  have h1 := h M av hA hJ hB
  rw [hk, hs] at h1
  refine AC.post hl0 (fun r sh' M' hp => ?_) h1
  obtain ⟨p1, p2, p3⟩ := hp
  cases r with
  | inr X =>
    have p3 : X ∈ eX e := p3
    rw [hX] at p3
    exact absurd p3 List.not_mem_nil
  | inl v =>
    obtain ⟨c, c1, c2, -⟩ := p3
    rw [hC] at c1
    have c1 : c = (some (some (.inr q)), []) := by simpa using c1
    subst c1
    cases v with
    | none => cases c2
    | some v =>
      obtain ⟨y, rfl, hy⟩ := c2
      exact ⟨p1, p2.2.2.2, y, rfl, hy, p2⟩
theorem JR_same {R : sR} {M M1 : aM} (hJ : JR R M) (h1 : M1.1 = M.1) (h2 : M1.2.2 = M.2.2) : JR R M1 := by
  refine ⟨fun e he => ?_, fun e he => by rw [h2]; exact hJ.2 e he⟩
  have := hJ.1 e he
  unfold rgOk at this ⊢
  rw [h1]
  exact this
theorem Jm_none {R : sR} {M M' : aM} (h : Jm R ([], []) M M') : M'.1 = M.1 := by
  funext a k
  exact h.2.2.1 a k rfl
def en_worthC : cE := (139, [some (.inl (.ref 0)), some (.inr ((-2147483648), 2147483647)), some (.inr ((-2147483648), 2147483647))], [], ([], []), [(some (some (.inr ((-2147483648), 2147483647))), [])], ["java/util/NoSuchElementException"], 2, 12)
def en_worthR : cE := (228, [some (.inl (.ref 58)), some (.inr ((-2147483648), 2147483647)), some (.inr ((-2147483648), 2147483647))], [], ([73, 74, 75, 76, 77, 78, 83], [(58, 0)]), [(some (some (.inr ((-2147483648), 2147483647))), [])], [], 0, 0)
def hd_153 : hdE := (153, [(0, some (.inl (.ref 58))), (2, some (.inr (0, 1))), (3, some (.inr ((-2147483648), 2147483647)))], [], 0, [], [])
theorem worthR_by {l : aL} {R : sR} {ct : List cE} {hs : List hdE} {ys : List sKy} {n : Nat} (hl0 : l.1.stackTraces = false) (hR : okR R) (hct : ∀ e ∈ ct, cOk l pg R SHF e) (hA : mCF pg R SHF mtL ct en_worthR hs [hd_153] ys n 0 [(0, some (.inl (.ref 58))), (1, some (.inr ((-2147483648), 2147483647))), (2, some (.inr ((-2147483648), 2147483647)))] = true) : cOk l pg R SHF en_worthR := by
  intro M0 av hav hJ hpre
  obtain ⟨v0, r, rfl, h0, hr⟩ : ∃ v0 r, av = v0 :: r ∧ mP v0 (some (.inl (.ref 58))) ∧ mL2 r [some (.inr ((-2147483648), 2147483647)), some (.inr ((-2147483648), 2147483647))] := by
    cases av with
    | nil => cases hav
    | cons v r => exact ⟨v, r, rfl, hav.1, hav.2⟩
  obtain ⟨v1, v2, rfl, ⟨x1, rfl, i1⟩, x2, rfl, i2⟩ := mL2_2 hr
  have h0 : v0 = .ref 58 := h0
  subst h0
  refine fw_of hl0 ⟨by decide +kernel, by decide +kernel, by decide +kernel⟩ rfl ?_
  refine from_ok (e := en_worthR) pg_ok mtL_ok hl0 hct hA (fun h hh L M hL hM _ hJm => ?_) (List.forall_mem_cons.mpr ⟨⟨_, rfl, rfl⟩, List.forall_mem_cons.mpr ⟨⟨_, rfl, x1, rfl, i1⟩, List.forall_mem_cons.mpr ⟨⟨_, rfl, x2, rfl, i2⟩, fun _ h => absurd h List.not_mem_nil⟩⟩⟩) hJ hpre
  have hh : h = hd_153 := by simpa using hh
  subst hh
  obtain ⟨u0, g0, e0⟩ := hL (0, some (.inl (.ref 58))) List.mem_cons_self
  obtain ⟨u1, g1, wh, e1, i1⟩ := hL (2, some (.inr (0, 1))) (List.mem_cons_of_mem _ List.mem_cons_self)
  obtain ⟨u2, g2, sm, e2, i2⟩ := hL (3, some (.inr ((-2147483648), 2147483647))) (List.mem_cons_of_mem _ (List.mem_cons_of_mem _ List.mem_cons_self))
  have e0 : u0 = .ref 58 := e0
  subst e0
  subst e1
  subst e2
  refine AW.drop (lv' := [(0, .ref 58), (2, .int wh), (3, .int sm)]) (List.forall_mem_cons.mpr ⟨lk_mem g0, List.forall_mem_cons.mpr ⟨lk_mem g1, List.forall_mem_cons.mpr ⟨lk_mem g2, fun _ h => absurd h List.not_mem_nil⟩⟩⟩) ?_
  have hRM : ∀ e ∈ RM, M.2.2 e.1 e.2.1 = e.2.2 := fun e he => rgR_ok hJm.2.1 (hR.1 e he)
  have g1 := rgF_ok hJm.1 hR.2.2.1
  have hN := nI_self g1.1
  have hN6 := g1.2
  have hN0 := g1.1
  simp only at hN6 hN0
  refine s227_153 hRM (fun y M' => M' = M ∧ y = nI (fac (M.1 58 1).toInt.toNat)) (by conv => { arg 6; rw [hN] }; exact c228 hl0 hRM (by omega)) (fun y M1 e1 q1 => ?_)
  obtain ⟨rfl, rfl⟩ := q1
  refine w227 hRM (fun v => ⟨rfl, hJm, _, List.mem_cons_self, ⟨v, rfl, in_full v⟩, fun q hq => absurd hq List.not_mem_nil⟩) (sm.toInt.natAbs + 1) _ _ (Nat.lt_succ_self _) ?_
  have : ∀ n, n ≤ 6 → ¬ nI (fac n) = 0 := by decide
  exact this _ (by omega)
theorem c140a {l : aL} (hl0 : l.1.stackTraces = false) {M : aM} (hJ : JR RR M) {N p : Nat} (hN : N ≤ 6) (hp : p < N) (h4 : M.1 4 0 = nI N) : AC l (pI pg 140) (fcI M (fun _ M' => M'.1 = M.1)) 0 0 [.ref 0, .int (nI p)] SHF M := by
  refine fw_of hl0 ⟨by decide +kernel, by decide +kernel, by decide +kernel⟩ rfl ?_
  refine s140a_0 hJ.2 ?_
  have h64 : 2 ^ N ≤ 64 := Nat.pow_le_pow_right (n := 2) (by decide) hN
  have hpos := Nat.two_pow_pos N
  have loop : ∀ (d k : Nat) (v : Int32) (M1 : aM), k + d = 2 ^ N → M1.1 = M.1 → M1.2.2 = M.2.2 → AW l (pI pg 140) (fcI M (fun _ M' => M'.1 = M.1)) 0 0 4 [(3, .int (nI k)), (2, .int v), (0, .ref 0), (1, .int (nI p))] [] SHF M1 := by
    intro d
    induction d with
    | zero =>
      intro k v M1 hk h1 h2
      have hJ1 := JR_same hJ h1 h2
      have hRM : ∀ e ∈ RM, M1.2.2 e.1 e.2.1 = e.2.2 := fun e he => rgR_ok hJ1.2 (okR_RR.1 e he)
      have no : ∀ {y : Int32}, y = nI (2 ^ N - 1) → ¬ ¬ (y < nI k) := by
        intro y hy
        rw [hy]
        exact fun h => h (nI_lt (by omega) (by omega))
      exact s140a_4 hJ1.2 (fun y M' => M' = M1 ∧ y = nI (2 ^ N - 1)) (c32a hl0 hRM (by omega) (by rw [h1]; exact h4)) (fun y M2 e2 q2 _ => ⟨rfl, e2.trans h2, _, rfl, by rw [q2.1]; exact h1⟩) (fun y M2 e2 q2 h => absurd h (no q2.2)) (fun _ _ _ _ => True) (fun y M2 e2 q2 h => absurd h (no q2.2)) (fun _ _ _ _ _ _ => True) (fun y M2 e2 q2 h => absurd h (no q2.2)) (fun _ _ _ _ _ _ _ _ => True) (fun y M2 e2 q2 h => absurd h (no q2.2)) (fun y M2 e2 q2 h => absurd h (no q2.2)) (fun y M2 e2 q2 h => absurd h (no q2.2)) (fun y M2 e2 q2 h => absurd h (no q2.2))
    | succ d ih =>
      intro k v M1 hk h1 h2
      have hJ1 := JR_same hJ h1 h2
      have hRM : ∀ e ∈ RM, M1.2.2 e.1 e.2.1 = e.2.2 := fun e he => rgR_ok hJ1.2 (okR_RR.1 e he)
      have hk1 : nI k + Int32.ofInt 1 = nI (k + 1) := nI_1 k
      have big : ∀ (M3 : aM) (x : Int32), M3.1 = M.1 → M3.2.2 = M.2.2 → AC l (pI pg 115) (fcI M3 (fun y M' => inI y (0, 8) ∧ Jm RR (eW en_17) M3 M')) 0 0 [.ref 33, .int x] SHF M3 := fun M3 x a1 a2 => fcI_of (e := en_17) hl0 (ok_17 hl0 (ctA_RR hl0) _ List.mem_cons_self) rfl rfl rfl rfl ⟨rfl, ⟨x, rfl, in_full x⟩, trivial⟩ (JR_same hJ a1 a2) (fun _ h => absurd h List.not_mem_nil)
      have bit : ((nI k >>> (nI p &&& 31)) &&& Int32.ofInt 1 = 0) → pcN k + 1 ≤ N := fun h => pc_lt N (by omega) p hp k (by omega) (by omega) ((bitF (by omega) (by omega)).mp h)
      refine s140a_4 hJ1.2 (fun y M' => M' = M1 ∧ y = nI (2 ^ N - 1)) (c32a hl0 hRM (by omega) (by rw [h1]; exact h4)) (fun y M2 e2 q2 _ => ⟨rfl, e2.trans h2, _, rfl, by rw [q2.1]; exact h1⟩) (fun y M2 e2 q2 _ _ => ?_) (fun _ M2 y M' => M' = M2 ∧ y = nI (pcN k)) (fun y M2 e2 q2 _ _ => ?_) (fun _ _ _ M7 y M' => inI y (0, 8) ∧ Jm RR (eW en_17) M7 M') (fun y M2 e2 q2 _ _ y7 M7 e7 q7 => ?_) (fun _ _ _ _ _ M9 y M' => inI y (0, 8) ∧ Jm RR (eW en_17) M9 M') (fun y M2 e2 q2 _ _ y7 M7 e7 q7 y9 M9 e9 q9 => ?_) (fun y M2 e2 q2 _ h5 y7 M7 e7 q7 y9 M9 e9 q9 y11 M11 e11 q11 => ?_) (fun y M2 e2 q2 _ h5 y7 M7 e7 q7 y9 M9 e9 q9 y11 M11 e11 q11 => ?_) (fun y M2 e2 q2 _ h5 y7 M7 e7 q7 y9 M9 e9 q9 y11 M11 e11 q11 => ?_)
      all_goals obtain ⟨rfl, rfl⟩ := q2
      · rw [hk1]
        exact ih (k + 1) v M2 (by omega) h1 h2
      · exact c21 hl0 hRM (by omega)
      all_goals obtain ⟨rfl, rfl⟩ := q7
      · exact big M7 _ h1 h2
      all_goals have a9 := Jm_none q9.2
      · exact big M9 _ (a9.trans h1) (e9.trans h2)
      all_goals
        have hb := bit h5
        have e4 : M7.1 4 0 - Int32.ofInt 1 - nI (pcN k) = nI (N - 1 - pcN k) := by
          rw [h1, h4, show nI N - Int32.ofInt 1 = nI (N - 1) from pk_sub (b := 1) (by omega), pk_sub (by omega)]
      · exact vp_in_nI (by omega) (by decide)
      · rw [e4]
        exact vp_in_nI (by omega) (by decide)
      · rw [hk1]
        have a11 := Jm_none q11.2
        exact ih (k + 1) _ M11 (by omega) (a11.trans (a9.trans h1)) (e11.trans (e9.trans h2))
  exact loop (2 ^ N) 0 _ M (Nat.zero_add _) rfl rfl
/-- FullHouseModel.product -/
def enxa_1 : cE := (229, [some (.inr (0, 8))], [], ([], []), [(some (some (.inr ((-2147483648), 2147483647))), [])], [], 0, 0)
def ctxa_1 : List cE := enxa_1 :: ct_166
set_option maxRecDepth 100000 in
theorem ckxa_1 : mC pg RR SHF mtL ct_166 enxa_1 [(4, [(0, some (.inr (0, 8))), (1, some (.inr ((-2147483648), 2147483647))), (2, some (.inr (2, 9)))], [], 9, [(-1)], [])] [(0, 2, 0)] 14 = true := by decide +kernel
theorem okxa_1 {l : aL} (hl0 : l.1.stackTraces = false) : ∀ e ∈ ctxa_1, cOk l pg RR SHF e := List.forall_mem_cons.mpr ⟨meth_ok pg_ok mtL_ok hl0 (all_RR hl0) ⟨by decide +kernel, by decide +kernel, by decide +kernel⟩ (by decide +kernel) ckxa_1, (all_RR hl0)⟩
/-- FullHouseModel.product -/
def enxa_2 : cE := (229, [some (.inr ((-9), 5))], [], ([], []), [(some (some (.inr ((-2147483648), 2147483647))), [])], [], 0, 0)
def ctxa_2 : List cE := enxa_2 :: ctxa_1
set_option maxRecDepth 100000 in
theorem ckxa_2 : mC pg RR SHF mtL ctxa_1 enxa_2 [(4, [(0, some (.inr ((-9), 5))), (1, some (.inr ((-2147483648), 2147483647))), (2, some (.inr (2, 6)))], [], 6, [(-1)], [])] [(0, 2, 0)] 14 = true := by decide +kernel
theorem okxa_2 {l : aL} (hl0 : l.1.stackTraces = false) : ∀ e ∈ ctxa_2, cOk l pg RR SHF e := List.forall_mem_cons.mpr ⟨meth_ok pg_ok mtL_ok hl0 (okxa_1 hl0) ⟨by decide +kernel, by decide +kernel, by decide +kernel⟩ (by decide +kernel) ckxa_2, (okxa_1 hl0)⟩
def hd_25a : hdE := (25, [(0, some (.inl (.ref 0))), (1, some (.inr (0, 5))), (2, some (.inr (0, 1)))], [], 0, [], [((0, 1, 0), (1, 4, 0), (-6), (-1))])
set_option maxRecDepth 100000 in
theorem cka_C : mCF pg RR SHF mtL ct_166 en_worthC [] [hd_25a] [] 21 0 [(0, some (.inl (.ref 0))), (1, some (.inr ((-2147483648), 2147483647))), (2, some (.inr ((-2147483648), 2147483647)))] = true := by decide +kernel
set_option maxRecDepth 100000 in
theorem cka_R : mCF pg RR SHF mtL ctxa_2 en_worthR [(44, [(0, some (.inl (.ref 58))), (1, some (.inr (0, 5))), (2, some (.inr (0, 1))), (3, some (.inr (0, 64)))], [], 129, [(-1), 0], []), (76, [(0, some (.inl (.ref 58))), (1, some (.inr (0, 5))), (2, some (.inr (0, 1))), (3, some (.inr ((-2147483648), 2147483647))), (4, some (.inr (0, 64)))], [], 64, [0, (-1)], [])] [hd_153] [(0, 3, 0), (0, 4, 0)] 49 0 [(0, some (.inl (.ref 58))), (1, some (.inr ((-2147483648), 2147483647))), (2, some (.inr ((-2147483648), 2147483647)))] = true := by decide +kernel
theorem worthR_a {l : aL} (hl0 : l.1.stackTraces = false) : cOk l pg RR SHF en_worthR := worthR_by hl0 okR_RR (okxa_2 hl0) cka_R
theorem worthC_a {l : aL} (hl0 : l.1.stackTraces = false) : cOk l pg RR SHF en_worthC := by
  intro M0 av hav hJ hpre
  obtain ⟨v0, r, rfl, h0, hr⟩ : ∃ v0 r, av = v0 :: r ∧ mP v0 (some (.inl (.ref 0))) ∧ mL2 r [some (.inr ((-2147483648), 2147483647)), some (.inr ((-2147483648), 2147483647))] := by
    cases av with
    | nil => cases hav
    | cons v r => exact ⟨v, r, rfl, hav.1, hav.2⟩
  obtain ⟨v1, v2, rfl, ⟨x1, rfl, i1⟩, x2, rfl, i2⟩ := mL2_2 hr
  have h0 : v0 = .ref 0 := h0
  subst h0
  refine fw_of hl0 ⟨by decide +kernel, by decide +kernel, by decide +kernel⟩ rfl ?_
  refine from_ok (e := en_worthC) pg_ok mtL_ok hl0 (all_RR hl0) cka_C (fun h hh L M hL hM hRl hJm => ?_) (List.forall_mem_cons.mpr ⟨⟨_, rfl, rfl⟩, List.forall_mem_cons.mpr ⟨⟨_, rfl, x1, rfl, i1⟩, List.forall_mem_cons.mpr ⟨⟨_, rfl, x2, rfl, i2⟩, fun _ h => absurd h List.not_mem_nil⟩⟩⟩) hJ hpre
  have hh : h = hd_25a := by simpa using hh
  subst hh
  obtain ⟨u0, g0, e0⟩ := hL (0, some (.inl (.ref 0))) List.mem_cons_self
  obtain ⟨u1, g1, px, e1, i1⟩ := hL (1, some (.inr (0, 5))) (List.mem_cons_of_mem _ List.mem_cons_self)
  obtain ⟨u2, g2, wh, e2, i2⟩ := hL (2, some (.inr (0, 1))) (List.mem_cons_of_mem _ (List.mem_cons_of_mem _ List.mem_cons_self))
  have e0 : u0 = .ref 0 := e0
  subst e0
  subst e1
  subst e2
  have rl := hRl ((0, 1, 0), (1, 4, 0), (-6), (-1)) List.mem_cons_self
  have k1 : kyN L M (0, 1, 0) = px.toInt := by
    show (match lk L 1 with | some (.int x) => x.toInt | _ => 0) = _
    rw [g1]
  have k2 : kyN L M (1, 4, 0) = (M.1 4 0).toInt := rfl
  rw [k1, k2] at rl
  have a1 := i1.1
  have a2 := i1.2
  simp only at a1 a2 rl
  have hRT : rgF RR.1 4 0 = some (0, 6) := by decide +kernel
  have r4 := rgF_ok hJm.1 hRT
  have b1 := r4.1
  have b2 := r4.2
  simp only at b1 b2
  have h4 := nI_self b1
  refine AW.drop (lv' := [(0, .ref 0), (1, .int (nI px.toInt.toNat)), (2, .int wh)]) (by rw [← nI_self a1]; exact List.forall_mem_cons.mpr ⟨lk_mem g0, List.forall_mem_cons.mpr ⟨lk_mem g1, List.forall_mem_cons.mpr ⟨lk_mem g2, fun _ h => absurd h List.not_mem_nil⟩⟩⟩) ?_
  have fin : ∀ (M4 : aM) (v : Int32), M4.1 = M.1 → M4.2.2 = M.2.2 → (SHF = SHF ∧ Jm RR (eW en_worthC) M0 M4 ∧ pOk en_worthC M0 M4 (.inl (some (.int v)))) := by
    intro M4 v q1 q2
    have hj := JR_same ⟨hJm.1, hJm.2.1⟩ q1 q2
    exact ⟨rfl, ⟨hj.1, hj.2, fun a k hw => by rw [q1]; exact hJm.2.2.1 a k hw, q2.trans hJm.2.2.2⟩, _, List.mem_cons_self, ⟨v, rfl, in_full v⟩, fun q hq => absurd hq List.not_mem_nil⟩
  have hRM : ∀ M2 : aM, M2.2.2 = M.2.2 → ∀ e ∈ RM, M2.2.2 e.1 e.2.1 = e.2.2 := fun M2 q2 e he => by rw [q2]; exact rgR_ok hJm.2.1 (okR_RR.1 e he)
  refine s139a_25 hJm.2.1 (by rw [h4]; exact vp_in_nI (by omega) (by decide)) (fun _ M' => M'.1 = M.1) (c140a hl0 ⟨hJm.1, hJm.2.1⟩ (by omega) (by omega) h4) (fun _ M2 y M' => M' = M2 ∧ ¬ y = 0) (fun y M2 e2 q2 => c141 hl0 (hRM M2 e2)) (fun y M2 e2 q2 y4 M4 e4 q4 _ => q4.2) (fun y M2 e2 q2 y4 M4 e4 q4 _ => ?_) (fun y M2 e2 q2 y4 M4 e4 q4 _ => q4.2) (fun y M2 e2 q2 y4 M4 e4 q4 _ => ?_)
  · exact fin M4 _ (by rw [q4.1]; exact q2) (e4.trans e2)
  · exact fin M4 _ (by rw [q4.1]; exact q2) (e4.trans e2)
theorem c140b {l : aL} (hl0 : l.1.stackTraces = false) {M : aM} (hJ : JR RRS M) {N p : Nat} (hN : N ≤ 6) (hp : p < N) (h4 : M.1 17 0 = nI N) : AC l (pI pg 140) (fcI M (fun _ M' => M'.1 = M.1)) 0 0 [.ref 0, .int (nI p)] SHF M := by
  refine fw_of hl0 ⟨by decide +kernel, by decide +kernel, by decide +kernel⟩ rfl ?_
  refine s140b_0 hJ.2 ?_
  have h64 : 2 ^ N ≤ 64 := Nat.pow_le_pow_right (n := 2) (by decide) hN
  have hpos := Nat.two_pow_pos N
  have loop : ∀ (d k : Nat) (v : Int32) (M1 : aM), k + d = 2 ^ N → M1.1 = M.1 → M1.2.2 = M.2.2 → AW l (pI pg 140) (fcI M (fun _ M' => M'.1 = M.1)) 0 0 4 [(3, .int (nI k)), (2, .int v), (0, .ref 0), (1, .int (nI p))] [] SHF M1 := by
    intro d
    induction d with
    | zero =>
      intro k v M1 hk h1 h2
      have hJ1 := JR_same hJ h1 h2
      have hRM : ∀ e ∈ RM, M1.2.2 e.1 e.2.1 = e.2.2 := fun e he => rgR_ok hJ1.2 (okR_RRS.1 e he)
      have no : ∀ {y : Int32}, y = nI (2 ^ N - 1) → ¬ ¬ (y < nI k) := by
        intro y hy
        rw [hy]
        exact fun h => h (nI_lt (by omega) (by omega))
      exact s140b_4 hJ1.2 (fun y M' => M' = M1 ∧ y = nI (2 ^ N - 1)) (c32b hl0 hRM (by omega) (by rw [h1]; exact h4)) (fun y M2 e2 q2 _ => ⟨rfl, e2.trans h2, _, rfl, by rw [q2.1]; exact h1⟩) (fun y M2 e2 q2 h => absurd h (no q2.2)) (fun _ _ _ _ => True) (fun y M2 e2 q2 h => absurd h (no q2.2)) (fun _ _ _ _ _ _ => True) (fun y M2 e2 q2 h => absurd h (no q2.2)) (fun _ _ _ _ _ _ _ _ => True) (fun y M2 e2 q2 h => absurd h (no q2.2)) (fun y M2 e2 q2 h => absurd h (no q2.2)) (fun y M2 e2 q2 h => absurd h (no q2.2)) (fun y M2 e2 q2 h => absurd h (no q2.2))
    | succ d ih =>
      intro k v M1 hk h1 h2
      have hJ1 := JR_same hJ h1 h2
      have hRM : ∀ e ∈ RM, M1.2.2 e.1 e.2.1 = e.2.2 := fun e he => rgR_ok hJ1.2 (okR_RRS.1 e he)
      have hk1 : nI k + Int32.ofInt 1 = nI (k + 1) := nI_1 k
      have big : ∀ (M3 : aM) (x : Int32), M3.1 = M.1 → M3.2.2 = M.2.2 → AC l (pI pg 115) (fcI M3 (fun y M' => inI y (0, 8) ∧ Jm RRS (eW ens_17) M3 M')) 0 0 [.ref 33, .int x] SHF M3 := fun M3 x a1 a2 => fcI_of (e := ens_17) hl0 (oks_17 hl0 (ctA_RRS hl0) _ List.mem_cons_self) rfl rfl rfl rfl ⟨rfl, ⟨x, rfl, in_full x⟩, trivial⟩ (JR_same hJ a1 a2) (fun _ h => absurd h List.not_mem_nil)
      have bit : ((nI k >>> (nI p &&& 31)) &&& Int32.ofInt 1 = 0) → pcN k + 1 ≤ N := fun h => pc_lt N (by omega) p hp k (by omega) (by omega) ((bitF (by omega) (by omega)).mp h)
      refine s140b_4 hJ1.2 (fun y M' => M' = M1 ∧ y = nI (2 ^ N - 1)) (c32b hl0 hRM (by omega) (by rw [h1]; exact h4)) (fun y M2 e2 q2 _ => ⟨rfl, e2.trans h2, _, rfl, by rw [q2.1]; exact h1⟩) (fun y M2 e2 q2 _ _ => ?_) (fun _ M2 y M' => M' = M2 ∧ y = nI (pcN k)) (fun y M2 e2 q2 _ _ => ?_) (fun _ _ _ M7 y M' => inI y (0, 8) ∧ Jm RRS (eW ens_17) M7 M') (fun y M2 e2 q2 _ _ y7 M7 e7 q7 => ?_) (fun _ _ _ _ _ M9 y M' => inI y (0, 8) ∧ Jm RRS (eW ens_17) M9 M') (fun y M2 e2 q2 _ _ y7 M7 e7 q7 y9 M9 e9 q9 => ?_) (fun y M2 e2 q2 _ h5 y7 M7 e7 q7 y9 M9 e9 q9 y11 M11 e11 q11 => ?_) (fun y M2 e2 q2 _ h5 y7 M7 e7 q7 y9 M9 e9 q9 y11 M11 e11 q11 => ?_) (fun y M2 e2 q2 _ h5 y7 M7 e7 q7 y9 M9 e9 q9 y11 M11 e11 q11 => ?_)
      all_goals obtain ⟨rfl, rfl⟩ := q2
      · rw [hk1]
        exact ih (k + 1) v M2 (by omega) h1 h2
      · exact c21 hl0 hRM (by omega)
      all_goals obtain ⟨rfl, rfl⟩ := q7
      · exact big M7 _ h1 h2
      all_goals have a9 := Jm_none q9.2
      · exact big M9 _ (a9.trans h1) (e9.trans h2)
      all_goals
        have hb := bit h5
        have e4 : M7.1 17 0 - Int32.ofInt 1 - nI (pcN k) = nI (N - 1 - pcN k) := by
          rw [h1, h4, show nI N - Int32.ofInt 1 = nI (N - 1) from pk_sub (b := 1) (by omega), pk_sub (by omega)]
      · exact vp_in_nI (by omega) (by decide)
      · rw [e4]
        exact vp_in_nI (by omega) (by decide)
      · rw [hk1]
        have a11 := Jm_none q11.2
        exact ih (k + 1) _ M11 (by omega) (a11.trans (a9.trans h1)) (e11.trans (e9.trans h2))
  exact loop (2 ^ N) 0 _ M (Nat.zero_add _) rfl rfl
/-- FullHouseModel.product -/
def enxb_1 : cE := (229, [some (.inr (0, 8))], [], ([], []), [(some (some (.inr ((-2147483648), 2147483647))), [])], [], 0, 0)
def ctxb_1 : List cE := enxb_1 :: cts_166
set_option maxRecDepth 100000 in
theorem ckxb_1 : mC pg RRS SHF mtL cts_166 enxb_1 [(4, [(0, some (.inr (0, 8))), (1, some (.inr ((-2147483648), 2147483647))), (2, some (.inr (2, 9)))], [], 9, [(-1)], [])] [(0, 2, 0)] 14 = true := by decide +kernel
theorem okxb_1 {l : aL} (hl0 : l.1.stackTraces = false) : ∀ e ∈ ctxb_1, cOk l pg RRS SHF e := List.forall_mem_cons.mpr ⟨meth_ok pg_ok mtL_ok hl0 (all_RRS hl0) ⟨by decide +kernel, by decide +kernel, by decide +kernel⟩ (by decide +kernel) ckxb_1, (all_RRS hl0)⟩
/-- FullHouseModel.product -/
def enxb_2 : cE := (229, [some (.inr ((-9), 5))], [], ([], []), [(some (some (.inr ((-2147483648), 2147483647))), [])], [], 0, 0)
def ctxb_2 : List cE := enxb_2 :: ctxb_1
set_option maxRecDepth 100000 in
theorem ckxb_2 : mC pg RRS SHF mtL ctxb_1 enxb_2 [(4, [(0, some (.inr ((-9), 5))), (1, some (.inr ((-2147483648), 2147483647))), (2, some (.inr (2, 6)))], [], 6, [(-1)], [])] [(0, 2, 0)] 14 = true := by decide +kernel
theorem okxb_2 {l : aL} (hl0 : l.1.stackTraces = false) : ∀ e ∈ ctxb_2, cOk l pg RRS SHF e := List.forall_mem_cons.mpr ⟨meth_ok pg_ok mtL_ok hl0 (okxb_1 hl0) ⟨by decide +kernel, by decide +kernel, by decide +kernel⟩ (by decide +kernel) ckxb_2, (okxb_1 hl0)⟩
def hd_25b : hdE := (25, [(0, some (.inl (.ref 0))), (1, some (.inr (0, 5))), (2, some (.inr (0, 1)))], [], 0, [], [((0, 1, 0), (1, 17, 0), (-6), (-1))])
set_option maxRecDepth 100000 in
theorem ckb_C : mCF pg RRS SHF mtL cts_166 en_worthC [] [hd_25b] [] 21 0 [(0, some (.inl (.ref 0))), (1, some (.inr ((-2147483648), 2147483647))), (2, some (.inr ((-2147483648), 2147483647)))] = true := by decide +kernel
set_option maxRecDepth 100000 in
theorem ckb_R : mCF pg RRS SHF mtL ctxb_2 en_worthR [(44, [(0, some (.inl (.ref 58))), (1, some (.inr (0, 5))), (2, some (.inr (0, 1))), (3, some (.inr (0, 64)))], [], 129, [(-1), 0], []), (76, [(0, some (.inl (.ref 58))), (1, some (.inr (0, 5))), (2, some (.inr (0, 1))), (3, some (.inr ((-2147483648), 2147483647))), (4, some (.inr (0, 64)))], [], 64, [0, (-1)], [])] [hd_153] [(0, 3, 0), (0, 4, 0)] 49 0 [(0, some (.inl (.ref 58))), (1, some (.inr ((-2147483648), 2147483647))), (2, some (.inr ((-2147483648), 2147483647)))] = true := by decide +kernel
theorem worthR_b {l : aL} (hl0 : l.1.stackTraces = false) : cOk l pg RRS SHF en_worthR := worthR_by hl0 okR_RRS (okxb_2 hl0) ckb_R
theorem worthC_b {l : aL} (hl0 : l.1.stackTraces = false) : cOk l pg RRS SHF en_worthC := by
  intro M0 av hav hJ hpre
  obtain ⟨v0, r, rfl, h0, hr⟩ : ∃ v0 r, av = v0 :: r ∧ mP v0 (some (.inl (.ref 0))) ∧ mL2 r [some (.inr ((-2147483648), 2147483647)), some (.inr ((-2147483648), 2147483647))] := by
    cases av with
    | nil => cases hav
    | cons v r => exact ⟨v, r, rfl, hav.1, hav.2⟩
  obtain ⟨v1, v2, rfl, ⟨x1, rfl, i1⟩, x2, rfl, i2⟩ := mL2_2 hr
  have h0 : v0 = .ref 0 := h0
  subst h0
  refine fw_of hl0 ⟨by decide +kernel, by decide +kernel, by decide +kernel⟩ rfl ?_
  refine from_ok (e := en_worthC) pg_ok mtL_ok hl0 (all_RRS hl0) ckb_C (fun h hh L M hL hM hRl hJm => ?_) (List.forall_mem_cons.mpr ⟨⟨_, rfl, rfl⟩, List.forall_mem_cons.mpr ⟨⟨_, rfl, x1, rfl, i1⟩, List.forall_mem_cons.mpr ⟨⟨_, rfl, x2, rfl, i2⟩, fun _ h => absurd h List.not_mem_nil⟩⟩⟩) hJ hpre
  have hh : h = hd_25b := by simpa using hh
  subst hh
  obtain ⟨u0, g0, e0⟩ := hL (0, some (.inl (.ref 0))) List.mem_cons_self
  obtain ⟨u1, g1, px, e1, i1⟩ := hL (1, some (.inr (0, 5))) (List.mem_cons_of_mem _ List.mem_cons_self)
  obtain ⟨u2, g2, wh, e2, i2⟩ := hL (2, some (.inr (0, 1))) (List.mem_cons_of_mem _ (List.mem_cons_of_mem _ List.mem_cons_self))
  have e0 : u0 = .ref 0 := e0
  subst e0
  subst e1
  subst e2
  have rl := hRl ((0, 1, 0), (1, 17, 0), (-6), (-1)) List.mem_cons_self
  have k1 : kyN L M (0, 1, 0) = px.toInt := by
    show (match lk L 1 with | some (.int x) => x.toInt | _ => 0) = _
    rw [g1]
  have k2 : kyN L M (1, 17, 0) = (M.1 17 0).toInt := rfl
  rw [k1, k2] at rl
  have a1 := i1.1
  have a2 := i1.2
  simp only at a1 a2 rl
  have hRT : rgF RRS.1 17 0 = some (0, 6) := by decide +kernel
  have r4 := rgF_ok hJm.1 hRT
  have b1 := r4.1
  have b2 := r4.2
  simp only at b1 b2
  have h4 := nI_self b1
  refine AW.drop (lv' := [(0, .ref 0), (1, .int (nI px.toInt.toNat)), (2, .int wh)]) (by rw [← nI_self a1]; exact List.forall_mem_cons.mpr ⟨lk_mem g0, List.forall_mem_cons.mpr ⟨lk_mem g1, List.forall_mem_cons.mpr ⟨lk_mem g2, fun _ h => absurd h List.not_mem_nil⟩⟩⟩) ?_
  have fin : ∀ (M4 : aM) (v : Int32), M4.1 = M.1 → M4.2.2 = M.2.2 → (SHF = SHF ∧ Jm RRS (eW en_worthC) M0 M4 ∧ pOk en_worthC M0 M4 (.inl (some (.int v)))) := by
    intro M4 v q1 q2
    have hj := JR_same ⟨hJm.1, hJm.2.1⟩ q1 q2
    exact ⟨rfl, ⟨hj.1, hj.2, fun a k hw => by rw [q1]; exact hJm.2.2.1 a k hw, q2.trans hJm.2.2.2⟩, _, List.mem_cons_self, ⟨v, rfl, in_full v⟩, fun q hq => absurd hq List.not_mem_nil⟩
  have hRM : ∀ M2 : aM, M2.2.2 = M.2.2 → ∀ e ∈ RM, M2.2.2 e.1 e.2.1 = e.2.2 := fun M2 q2 e he => by rw [q2]; exact rgR_ok hJm.2.1 (okR_RRS.1 e he)
  refine s139b_25 hJm.2.1 (by rw [h4]; exact vp_in_nI (by omega) (by decide)) (fun _ M' => M'.1 = M.1) (c140b hl0 ⟨hJm.1, hJm.2.1⟩ (by omega) (by omega) h4) (fun _ M2 y M' => M' = M2 ∧ ¬ y = 0) (fun y M2 e2 q2 => c141 hl0 (hRM M2 e2)) (fun y M2 e2 q2 y4 M4 e4 q4 _ => q4.2) (fun y M2 e2 q2 y4 M4 e4 q4 _ => ?_) (fun y M2 e2 q2 y4 M4 e4 q4 _ => q4.2) (fun y M2 e2 q2 y4 M4 e4 q4 _ => ?_)
  · exact fin M4 _ (by rw [q4.1]; exact q2) (e4.trans e2)
  · exact fin M4 _ (by rw [q4.1]; exact q2) (e4.trans e2)
