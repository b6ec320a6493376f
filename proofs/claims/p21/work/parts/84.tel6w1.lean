/-! THE GUEST: of each class of those whom he sees alike the likeliest counts; two ways to sum it -/
noncomputable def fiN (P : Prop) (x : Nat) : Nat := @ite Nat P (Classical.propDecidable P) x 0
theorem fiN_t {P : Prop} {x : Nat} (h : P) : fiN P x = x := if_pos h
theorem fiN_f {P : Prop} {x : Nat} (h : ¬ P) : fiN P x = 0 := if_neg h
theorem smF_eq {f g : Nat → Nat} : ∀ n, (∀ i, i < n → f i = g i) → smF f n = smF g n
  | 0, _ => rfl
  | n + 1, h => by
    show smF f n + f n = smF g n + g n
    rw [smF_eq n (fun i hi => h i (by omega)), h n (Nat.lt_succ_self _)]
theorem smF_0 {f : Nat → Nat} : ∀ n, (∀ i, i < n → f i = 0) → smF f n = 0
  | 0, _ => rfl
  | n + 1, h => by
    show smF f n + f n = 0
    rw [smF_0 n (fun i hi => h i (by omega)), h n (Nat.lt_succ_self _)]
theorem smF_one {f : Nat → Nat} {a : Nat} : ∀ n, a < n → (∀ i, i < n → i ≠ a → f i = 0) → smF f n = f a
  | 0, h, _ => absurd h (Nat.not_lt_zero _)
  | n + 1, h, h2 => by
    show smF f n + f n = f a
    by_cases e : a = n
    · subst e
      rw [smF_0 a (fun i hi => h2 i (by omega) (by omega)), Nat.zero_add]
    · rw [smF_one n (by omega) (fun i hi he => h2 i (by omega) he), h2 n (Nat.lt_succ_self _) (fun h => e h.symm), Nat.add_zero]
theorem smF_add {f g : Nat → Nat} : ∀ n, smF (fun i => f i + g i) n = smF f n + smF g n
  | 0 => rfl
  | n + 1 => by
    show smF (fun i => f i + g i) n + (f n + g n) = (smF f n + f n) + (smF g n + g n)
    rw [smF_add n]
    omega
theorem smF_swap {g : Nat → Nat → Nat} {m : Nat} : ∀ n, smF (fun a => smF (fun f => g a f) m) n = smF (fun f => smF (fun a => g a f) n) m
  | 0 => (smF_0 m (fun _ _ => rfl)).symm
  | n + 1 => by
    show smF (fun a => smF (fun f => g a f) m) n + smF (fun f => g n f) m = smF (fun f => smF (fun a => g a f) n + g n f) m
    rw [smF_swap n, smF_add]
section GSU
variable {L : Nat → Nat → Prop} {c : Nat → Nat} {N : Nat}
noncomputable def mxG (L : Nat → Nat → Prop) (c : Nat → Nat) (a : Nat) : Nat → Nat
  | 0 => 0
  | n + 1 => @ite Nat (a ≤ n ∧ L a n ∧ mxG L c a n < c n) (Classical.propDecidable _) (c n) (mxG L c a n)
theorem mxG_t {a n : Nat} (h : a ≤ n ∧ L a n ∧ mxG L c a n < c n) : mxG L c a (n + 1) = c n := if_pos h
theorem mxG_f {a n : Nat} (h : ¬ (a ≤ n ∧ L a n ∧ mxG L c a n < c n)) : mxG L c a (n + 1) = mxG L c a n := if_neg h
theorem mxG_0 {a : Nat} : ∀ n, n ≤ a → mxG L c a n = 0
  | 0, _ => rfl
  | n + 1, h => by
    rw [mxG_f (fun q => by have := q.1; omega)]
    exact mxG_0 n (by omega)
/-- the likeliest of his class: none ahead is as likely, none behind likelier -/
def lkG (L : Nat → Nat → Prop) (c : Nat → Nat) (N a : Nat) : Prop := ∀ o, o < N → L o a → (o < a → c o < c a) ∧ (a ≤ o → c o ≤ c a)
def fsG (L : Nat → Nat → Prop) (a : Nat) : Prop := ∀ b, b < a → ¬ L a b
theorem fs_ex (hs : ∀ a b, L a b → L b a) (ht : ∀ a b d, L a b → L b d → L a d) (hr : ∀ a, L a a) : ∀ a, ∃ f, f ≤ a ∧ fsG L f ∧ L f a := by
  intro a
  induction a using Nat.strongRecOn with
  | _ a ih =>
    by_cases h : fsG L a
    · exact ⟨a, Nat.le_refl _, h, hr a⟩
    · have h0 : ∃ b, b < a ∧ L a b := Classical.byContradiction fun hn => h (fun b hb hl => hn ⟨b, hb, hl⟩)
      obtain ⟨b, h1, h2⟩ := h0
      obtain ⟨f, f1, f2, f3⟩ := ih b h1
      exact ⟨f, by omega, f2, ht _ _ _ f3 (hs _ _ h2)⟩
theorem mx_at (hs : ∀ a b, L a b → L b a) (hr : ∀ a, L a a) {f : Nat} (hf : fsG L f) : ∀ d, ∃ a, f ≤ a ∧ a < f + 1 + d ∧ L f a ∧ mxG L c f (f + 1 + d) = c a ∧ ∀ b, b < f + 1 + d → L f b → (b < a → c b < c a) ∧ c b ≤ c a
  | 0 => by
    refine ⟨f, Nat.le_refl _, by omega, hr f, ?_, fun b hb hl => ?_⟩
    · show mxG L c f (f + 1) = c f
      by_cases h : f ≤ f ∧ L f f ∧ mxG L c f f < c f
      · exact mxG_t h
      · rw [mxG_f h]
        have z := mxG_0 (L := L) (c := c) (a := f) f (Nat.le_refl _)
        have : ¬ mxG L c f f < c f := fun q => h ⟨Nat.le_refl _, hr f, q⟩
        omega
    · have e : b = f := by
        by_cases e : b < f
        · exact absurd hl (hf b e)
        · omega
      rw [e]
      exact ⟨fun q => absurd q (Nat.lt_irrefl _), Nat.le_refl _⟩
  | d + 1 => by
    obtain ⟨a, a1, a2, a3, a4, a5⟩ := mx_at hs hr hf d
    have e : f + 1 + (d + 1) = (f + 1 + d) + 1 := by omega
    rw [e]
    generalize hn : f + 1 + d = n at *
    by_cases h : f ≤ n ∧ L f n ∧ mxG L c f n < c n
    · refine ⟨n, by omega, Nat.lt_succ_self _, h.2.1, mxG_t h, fun b hb hl => ?_⟩
      have h3 := h.2.2
      rw [a4] at h3
      by_cases e2 : b = n
      · rw [e2]
        exact ⟨fun q => absurd q (Nat.lt_irrefl _), Nat.le_refl _⟩
      · have := (a5 b (by omega) hl).2
        exact ⟨fun _ => by omega, by omega⟩
    · refine ⟨a, a1, by omega, a3, by rw [mxG_f h]; exact a4, fun b hb hl => ?_⟩
      by_cases e2 : b = n
      · rw [e2] at hl ⊢
        have : ¬ mxG L c f n < c n := fun q => h ⟨by omega, hl, q⟩
        exact ⟨fun q => by omega, by omega⟩
      · exact a5 b (by omega) hl
theorem guess_eq (hs : ∀ a b, L a b → L b a) (ht : ∀ a b d, L a b → L b d → L a d) (hr : ∀ a, L a a) : smF (fun a => fiN (lkG L c N a) (c a)) N = smF (fun a => fiN (fsG L a) (mxG L c a N)) N := by
  have e1 : smF (fun a => fiN (lkG L c N a) (c a)) N = smF (fun a => smF (fun f => fiN (fsG L f ∧ L f a) (fiN (lkG L c N a) (c a))) N) N := by
    refine smF_eq N (fun a ha => ?_)
    obtain ⟨f, f1, f2, f3⟩ := fs_ex hs ht hr a
    have z : ∀ i, i < N → i ≠ f → fiN (fsG L i ∧ L i a) (fiN (lkG L c N a) (c a)) = 0 := by
      intro i hi he
      refine fiN_f (fun q => ?_)
      have l1 : L i f := ht _ _ _ q.2 (hs _ _ f3)
      by_cases h : i < f
      · exact f2 i h (hs _ _ l1)
      · exact q.1 f (by omega) l1
    have o := smF_one (f := fun f => fiN (fsG L f ∧ L f a) (fiN (lkG L c N a) (c a))) (a := f) N (by omega) z
    rw [o]
    exact (fiN_t ⟨f2, f3⟩).symm
  rw [e1, smF_swap]
  refine smF_eq N (fun f hf => ?_)
  by_cases h : fsG L f
  · rw [fiN_t h]
    obtain ⟨a, a1, a2, a3, a4, a5⟩ := mx_at (c := c) hs hr h (N - (f + 1))
    have eN : f + 1 + (N - (f + 1)) = N := by omega
    rw [eN] at a2 a4 a5
    have lk : lkG L c N a := by
      intro o ho hl
      have := a5 o ho (ht _ _ _ a3 (hs _ _ hl))
      exact ⟨this.1, fun _ => this.2⟩
    have z : ∀ i, i < N → i ≠ a → fiN (fsG L f ∧ L f i) (fiN (lkG L c N i) (c i)) = 0 := by
      intro i hi he
      by_cases h1 : fsG L f ∧ L f i
      · rw [fiN_t h1]
        refine fiN_f (fun q => ?_)
        have l1 : L a i := ht _ _ _ (hs _ _ a3) h1.2
        have q1 := q a a2 l1
        have q2 := a5 i hi h1.2
        by_cases h2 : i < a
        · have := q2.1 h2
          have := q1.2 (by omega)
          omega
        · have := q1.1 (by omega)
          have := q2.2
          omega
      · exact fiN_f h1
    have o := smF_one (f := fun i => fiN (fsG L f ∧ L f i) (fiN (lkG L c N i) (c i))) (a := a) N a2 z
    rw [a4, o, fiN_t ⟨h, a3⟩, fiN_t lk]
  · rw [fiN_f h]
    exact smF_0 N (fun a _ => fiN_f (fun q => h q.1))
end GSU
/-! WHAT IS SEEN, four bits a work -/
def snN (f : Nat → Nat) : Nat → Nat
  | 0 => 0
  | n + 1 => snN f n ||| (f n <<< (4 * n))
theorem sn_bit {f : Nat → Nat} {i : Nat} : ∀ {n : Nat}, (∀ w, w < n → f w < 16) → ((snN f n).testBit i = true ↔ i / 4 < n ∧ (f (i / 4)).testBit (i % 4) = true)
  | 0, _ => ⟨fun h => (by rw [snN, Nat.zero_testBit] at h; cases h), fun h => absurd h.1 (Nat.not_lt_zero _)⟩
  | n + 1, h => by
    show (snN f n ||| (f n <<< (4 * n))).testBit i = true ↔ _
    rw [Nat.testBit_or, Bool.or_eq_true, sn_bit (fun w hw => h w (by omega)), Nat.testBit_shiftLeft, Bool.and_eq_true, decide_eq_true_eq]
    constructor
    · rintro (⟨h1, h2⟩ | ⟨h1, h2⟩)
      · exact ⟨by omega, h2⟩
      · have h4 : i - 4 * n < 4 := Nat.lt_of_not_le fun hle => by
          rw [tb_no (w := 4) (h n (Nat.lt_succ_self _)) hle] at h2
          cases h2
        rw [show i / 4 = n by omega, show i % 4 = i - 4 * n by omega]
        exact ⟨Nat.lt_succ_self _, h2⟩
    · rintro ⟨h1, h2⟩
      by_cases e : i / 4 = n
      · rw [e] at h2
        exact Or.inr ⟨by omega, by rw [show i - 4 * n = i % 4 by omega]; exact h2⟩
      · exact Or.inl ⟨by omega, h2⟩
theorem sn_lt {f : Nat → Nat} {n : Nat} (hn : n ≤ 8) (h : ∀ w, w < n → f w < 16) : snN f n < 2 ^ 32 := Nat.lt_pow_two_of_testBit _ fun i hi => by
  cases e : (snN f n).testBit i with
  | false => rfl
  | true =>
    have := ((sn_bit h).mp e).1
    omega
def sgS (s : Nat) : Nat → Nat := fun w => if s.testBit w = true then 15 else 0
theorem sg_lt {s w : Nat} : sgS s w < 16 := by
  unfold sgS
  split <;> decide
theorem b15 : ∀ j, j < 4 → Nat.testBit 15 j = true := by decide
theorem sn_like {f g : Nat → Nat} {s n : Nat} (hf : ∀ w, w < n → f w < 16) (hg : ∀ w, w < n → g w < 16) : (snN f n &&& snN (sgS s) n = snN g n &&& snN (sgS s) n) ↔ ∀ w, w < n → s.testBit w = true → f w = g w := by
  have bs : ∀ i, (snN (sgS s) n).testBit i = true ↔ i / 4 < n ∧ s.testBit (i / 4) = true := fun i => by
    rw [sn_bit (fun w _ => sg_lt)]
    unfold sgS
    refine and_congr Iff.rfl ?_
    cases e : s.testBit (i / 4) with
    | true =>
      rw [if_pos rfl]
      exact ⟨fun _ => rfl, fun _ => b15 _ (Nat.mod_lt _ (by decide))⟩
    | false =>
      rw [if_neg (by decide), Nat.zero_testBit]
  constructor
  · intro h w hw hb
    refine eqb (n := 4) (hf w hw) (hg w hw) (fun j hj => ?_)
    have e := congrArg (fun z => z.testBit (4 * w + j)) h
    simp only [Nat.testBit_and] at e
    have q := (bs (4 * w + j)).mpr (by rw [show (4 * w + j) / 4 = w by omega]; exact ⟨hw, hb⟩)
    rw [q, Bool.and_true, Bool.and_true] at e
    have a1 := sn_bit (i := 4 * w + j) hf
    have a2 := sn_bit (i := 4 * w + j) hg
    rw [show (4 * w + j) / 4 = w by omega, show (4 * w + j) % 4 = j by omega] at a1 a2
    rw [e] at a1
    constructor
    · intro y
      exact (a2.mp (a1.mpr ⟨hw, y⟩)).2
    · intro y
      exact (a1.mp (a2.mpr ⟨hw, y⟩)).2
  · intro h
    refine Nat.eq_of_testBit_eq fun i => ?_
    rw [Nat.testBit_and, Nat.testBit_and]
    cases e : (snN (sgS s) n).testBit i with
    | false => rw [Bool.and_false, Bool.and_false]
    | true =>
      obtain ⟨h1, h2⟩ := (bs i).mp e
      have a1 := sn_bit (i := i) hf
      have a2 := sn_bit (i := i) hg
      rw [h _ h1 h2] at a1
      rw [Bool.and_true, Bool.and_true]
      cases e1 : (snN f n).testBit i <;> cases e2 : (snN g n).testBit i <;> rw [e1] at a1 <;> rw [e2] at a2 <;> first
        | rfl
        | exact absurd (a2.mpr (a1.mp rfl)) (by decide)
        | exact absurd (a1.mpr (a2.mp rfl)) (by decide)
/-! WHAT THE GUEST SEES when one is away, or nobody -/
def awg (n p : Nat) : Nat := (2 ^ n - 1) ^^^ 2 ^ p
theorem awg_lt : ∀ n, n ≤ 6 → ∀ p, p < n → awg n p < 2 ^ n := by decide +kernel
theorem awg_c : ∀ n, n ≤ 6 → ∀ p, p < n → nI (2 ^ n - 1) ^^^ (Int32.ofInt 1 <<< (nI p &&& 31)) = nI (awg n p) := by decide +kernel
theorem awg_m : ∀ n, n ≤ 6 → ∀ p, p < n → ((Int32.ofInt 1 <<< (nI n &&& 31)) - Int32.ofInt 1) &&& ((Int32.ofInt 1 <<< (nI p &&& 31)) ^^^ Int32.ofInt (-1)) = nI (awg n p) := by decide +kernel
theorem awg_n : ∀ n, n ≤ 6 → ((Int32.ofInt 1 <<< (nI n &&& 31)) - Int32.ofInt 1) &&& (Int32.ofInt 0 ^^^ Int32.ofInt (-1)) = nI (2 ^ n - 1) := by decide +kernel
section GUP
variable {H : HS}
def lfG (H : HS) (a : Nat) : Nat := if a < H.pe then awg H.pe a else 2 ^ H.pe - 1
theorem lfG_lt (p6 : H.pe ≤ 6) {a : Nat} : lfG H a < 64 := by
  have P : 2 ^ H.pe ≤ 64 := pw_le p6
  have := Nat.two_pow_pos H.pe
  unfold lfG
  split
  · next h => exact Nat.lt_of_lt_of_le (awg_lt _ p6 _ h) P
  · omega
def isS (H : HS) (a : Nat) (f : Nat → Nat) : Prop := (∃ la, brw H H.cd H.pe (lfG H a) (skG H) la ∧ ∀ w, w < H.wo → f w = H.sk (8 * la w + w)) ∨ ((∀ r, ¬ rowO H H.cd (lfG H a) H.pe (2 ^ H.wo - 1) r) ∧ ∀ w, w < H.wo → f w = 0)
theorem isS_u {a : Nat} {f g : Nat → Nat} (hf : isS H a f) (hg : isS H a g) : ∀ w, w < H.wo → f w = g w := by
  intro w hw
  rcases hf with ⟨la, h1, h2⟩ | ⟨h1, h2⟩ <;> rcases hg with ⟨lb, g1, g2⟩ | ⟨g1, g2⟩
  · rw [h2 w hw, g2 w hw, brw_u h1 g1 w hw]
  · exact absurd h1.1 (g1 la)
  · exact absurd g1.1 (h1 lb)
  · rw [h2 w hw, g2 w hw]
noncomputable def sgF (H : HS) (a : Nat) : Nat → Nat := Classical.epsilon (isS H a)
theorem sgF_eq {a : Nat} {f : Nat → Nat} (h : isS H a f) : ∀ w, w < H.wo → f w = sgF H a w := isS_u h (Classical.epsilon_spec ⟨f, h⟩)
theorem isS_lt (hI : HI H) {a : Nat} {f : Nat → Nat} (h : isS H a f) : ∀ w, w < H.wo → f w ≤ 9 := by
  have w8 := hI.2.1
  have p6 := hI.1
  intro w hw
  rcases h with ⟨la, h1, h2⟩ | ⟨-, h2⟩
  · rw [h2 w hw]
    have := (h1.1.1 w hw (ful_bit hw)).1
    exact (hI.2.2.2.2.2.2.2.1 (la w) w (by omega) (by omega)).1
  · rw [h2 w hw]
    omega
def chG (H : HS) (a : Nat) : Nat := if a < H.pe then H.ch a else 1000 - smF H.ch H.pe
theorem chG_le (hI : HI H) (a : Nat) : chG H a ≤ 1000 := by
  have h := hI.2.2.2.2.2.1
  unfold chG
  split
  · next e =>
      have := smF_ge (f := H.ch) H.pe a e
      omega
  · omega
def lkSg (H : HS) (s a b : Nat) : Prop := ∀ w, w < H.wo → s.testBit w = true → sgF H a w = sgF H b w
theorem lkSg_s {s : Nat} : ∀ a b, lkSg H s a b → lkSg H s b a := fun a b h w hw hb => (h w hw hb).symm
theorem lkSg_t {s : Nat} : ∀ a b d, lkSg H s a b → lkSg H s b d → lkSg H s a d := fun a b d h h2 w hw hb => (h w hw hb).trans (h2 w hw hb)
theorem lkSg_r {s : Nat} : ∀ a, lkSg H s a a := fun a w _ _ => rfl
noncomputable def gcV0 (H : HS) (s : Nat) : Nat → Nat := smF (fun a => fiN (lkG (lkSg H s) (chG H) (H.pe + 1) a) (chG H a))
noncomputable def gmV0 (H : HS) (s : Nat) : Nat → Nat := smF (fun a => fiN (fsG (lkSg H s) a) (mxG (lkSg H s) (chG H) a (H.pe + 1)))
noncomputable def guV (H : HS) (s : Nat) : Nat := gcV0 H s (H.pe + 1)
theorem guV_m {s : Nat} : gmV0 H s (H.pe + 1) = guV H s := (guess_eq lkSg_s lkSg_t lkSg_r).symm
theorem fiN_le {P : Prop} {x b : Nat} (h : x ≤ b) : fiN P x ≤ b := by
  by_cases hp : P
  · rw [fiN_t hp]
    exact h
  · rw [fiN_f hp]
    exact Nat.zero_le _
theorem smF_le {f : Nat → Nat} {b : Nat} (h : ∀ i, f i ≤ b) : ∀ n, smF f n ≤ n * b
  | 0 => Nat.zero_le _
  | n + 1 => by
    have := smF_le h n
    have := h n
    show smF f n + f n ≤ (n + 1) * b
    rw [Nat.add_mul, Nat.one_mul]
    omega
theorem gc_le (hI : HI H) {s n : Nat} (hn : n ≤ 7) : gcV0 H s n ≤ 7000 := Nat.le_trans (smF_le (fun i => fiN_le (chG_le hI i)) n) (by omega)
theorem mxG_le (hI : HI H) {s a : Nat} : ∀ n, mxG (lkSg H s) (chG H) a n ≤ 1000
  | 0 => Nat.zero_le _
  | n + 1 => by
    by_cases h : a ≤ n ∧ lkSg H s a n ∧ mxG (lkSg H s) (chG H) a n < chG H n
    · rw [mxG_t h]
      exact chG_le hI n
    · rw [mxG_f h]
      exact mxG_le hI n
theorem gm_le (hI : HI H) {s n : Nat} (hn : n ≤ 7) : gmV0 H s n ≤ 7000 := Nat.le_trans (smF_le (fun i => fiN_le (mxG_le hI _)) n) (by omega)
theorem sn_0 {f : Nat → Nat} : ∀ n, (∀ w, w < n → f w = 0) → snN f n = 0
  | 0, _ => rfl
  | n + 1, h => by
    show snN f n ||| (f n <<< (4 * n)) = 0
    rw [sn_0 n (fun w hw => h w (by omega)), h n (Nat.lt_succ_self _), Nat.zero_shiftLeft]
    rfl
theorem or_sh {a b w : Nat} (hb : b < 16) (hw : w < 8) : Int32.ofNat a ||| (nI b <<< ((Int32.ofInt 4 * nI w) &&& 31)) = Int32.ofNat (a ||| (b <<< (4 * w))) := by
  have e : ∀ w, w < 8 → ((Int32.ofInt 4 * nI w) &&& 31).toBitVec.smod 32 = BitVec.ofNat 32 (4 * w) := by decide +kernel
  apply Int32.toBitVec_inj.mp
  rw [Int32.toBitVec_or, Int32.toBitVec_shiftLeft, e w hw]
  apply BitVec.eq_of_toNat_eq
  show (BitVec.ofNat 32 a ||| (BitVec.ofNat 32 b <<< BitVec.ofNat 32 (4 * w))).toNat = (BitVec.ofNat 32 (a ||| (b <<< (4 * w)))).toNat
  rw [BitVec.toNat_or, BitVec.shiftLeft_eq', BitVec.toNat_shiftLeft, BitVec.toNat_ofNat, BitVec.toNat_ofNat, BitVec.toNat_ofNat, BitVec.toNat_ofNat, Nat.mod_eq_of_lt (show b < 2 ^ 32 by omega), Nat.mod_eq_of_lt (show 4 * w < 2 ^ 32 by omega), Nat.or_mod_two_pow]
theorem and_N {a b : Nat} : Int32.ofNat a &&& Int32.ofNat b = Int32.ofNat (a &&& b) := by
  apply Int32.toBitVec_inj.mp
  apply BitVec.eq_of_toNat_eq
  show (BitVec.ofNat 32 a &&& BitVec.ofNat 32 b).toNat = (BitVec.ofNat 32 (a &&& b)).toNat
  rw [BitVec.toNat_and, BitVec.toNat_ofNat, BitVec.toNat_ofNat, BitVec.toNat_ofNat, Nat.and_mod_two_pow]
theorem oN_eq {a b : Nat} (ha : a < 2 ^ 32) (hb : b < 2 ^ 32) : Int32.ofNat a = Int32.ofNat b ↔ a = b := by
  constructor
  · intro h
    have h2 := congrArg (fun z => z.toBitVec.toNat) h
    have e : ∀ n, (Int32.ofNat n).toBitVec.toNat = n % 2 ^ 32 := fun n => BitVec.toNat_ofNat _ _
    simp only [e] at h2
    rw [Nat.mod_eq_of_lt ha, Nat.mod_eq_of_lt hb] at h2
    exact h2
  · intro h
    rw [h]
/-- what is kept of the sights in the class -/
def GSr (H : HS) (n : Nat) (M : aM) : Prop := ∀ a, a < n → (∃ f, isS H a f ∧ M.1 46 a = Int32.ofNat (snN f H.wo)) ∧ M.1 47 a = nI (chG H a)
def GSt (H : HS) (M : aM) : Prop := M.1 45 2 = 0 ∨ GSr H (H.pe + 1) M
theorem like_c (hI : HI H) {s a b : Nat} {f g : Nat → Nat} (hf : isS H a f) (hg : isS H b g) : (Int32.ofNat (snN f H.wo) &&& Int32.ofNat (snN (sgS s) H.wo) = Int32.ofNat (snN g H.wo) &&& Int32.ofNat (snN (sgS s) H.wo)) ↔ lkSg H s a b := by
  have w8 := hI.2.1
  have f16 : ∀ w, w < H.wo → f w < 16 := fun w hw => by have := isS_lt hI hf w hw; omega
  have g16 : ∀ w, w < H.wo → g w < 16 := fun w hw => by have := isS_lt hI hg w hw; omega
  rw [and_N, and_N, oN_eq (Nat.lt_of_le_of_lt Nat.and_le_left (sn_lt w8 f16)) (Nat.lt_of_le_of_lt Nat.and_le_left (sn_lt w8 g16)), sn_like f16 g16]
  exact ⟨fun h w hw hb => by rw [← sgF_eq hf w hw, ← sgF_eq hg w hw]; exact h w hw hb, fun h w hw hb => by rw [sgF_eq hf w hw, sgF_eq hg w hw]; exact h w hw hb⟩
theorem rk_isS (hI : HI H) {a : Nat} {f : Nat → Int} (h : Best (Rch (mkC H H.cd (rkG H) (lfG H a)) fx0 H.pe) H.wo f) : ∃ g, isS H a g ∧ ((f (2 ^ H.wo - 1) = -1 ∧ ∀ w, w < H.wo → g w = 0) ∨ ∃ (S : Int) (la : Nat → Nat), 0 ≤ S ∧ S ≤ 100 ∧ f (2 ^ H.wo - 1) = 16777216 * S + sumR cdG la (2 ^ H.wo - 1) H.wo ∧ (∀ w, w < H.wo → la w < H.pe) ∧ ∀ w, w < H.wo → g w = H.sk (8 * la w + w)) := by
  have w8 := hI.2.1
  have p6 := hI.1
  rcases rk_dy w8 h with ⟨u, v⟩ | ⟨S, c, r, u1, u2, u3, u4, u5, u6, u7, u8, u9⟩
  · rcases v with ⟨v, -⟩ | ⟨-, v⟩
    · omega
    · exact ⟨fun _ => 0, Or.inr ⟨v, fun _ _ => rfl⟩, Or.inl ⟨u, fun _ _ => rfl⟩⟩
  · have s9 := sk9 hI u6
    rw [u7] at s9
    refine ⟨fun w => H.sk (8 * r w + w), Or.inl ⟨r, brw_of w8 p6 u5 u6 u7 (fun r' h1 h2 => by rw [u8]; exact u9 r' h1 h2), fun _ _ => rfl⟩, Or.inr ⟨S, r, u2, by omega, by rw [u1, u8], fun w hw => (u6.1 w hw (ful_bit hw)).1, fun _ _ => rfl⟩⟩
theorem hi_c8 : ∀ k, k ≤ 8 → ∀ j, j < 32 → (((nI (2 ^ k - 1) ^^^ Int32.ofInt (-1)).toBitVec.toNat).testBit j = true ↔ k ≤ j) := by decide +kernel
theorem left_iff8 {pe : Nat} (h : pe ≤ 8) {x : Int32} : x &&& (nI (2 ^ pe - 1) ^^^ Int32.ofInt (-1)) = 0 ↔ inN (2 ^ pe) x := by
  have p : 2 ^ pe ≤ 2 ^ 8 := Nat.pow_le_pow_right (by decide) h
  have h1 : x.toInt = (x.toBitVec.toNat : Int).bmod (2 ^ 32) := BitVec.toInt_eq_toNat_bmod x.toBitVec
  have h2 := x.toBitVec.isLt
  have e : x &&& (nI (2 ^ pe - 1) ^^^ Int32.ofInt (-1)) = 0 ↔ x.toBitVec.toNat &&& (nI (2 ^ pe - 1) ^^^ Int32.ofInt (-1)).toBitVec.toNat = 0 := by
    constructor
    · intro g
      have g2 := congrArg (fun z => z.toBitVec.toNat) g
      rw [show (x &&& (nI (2 ^ pe - 1) ^^^ Int32.ofInt (-1))).toBitVec.toNat = x.toBitVec.toNat &&& (nI (2 ^ pe - 1) ^^^ Int32.ofInt (-1)).toBitVec.toNat from by rw [Int32.toBitVec_and, BitVec.toNat_and]] at g2
      exact g2
    · intro g
      apply Int32.toBitVec_inj.mp
      apply BitVec.eq_of_toNat_eq
      rw [Int32.toBitVec_and, BitVec.toNat_and, g]
      rfl
  rw [e, hi_bits h2 (hi_c8 pe h)]
  unfold inN
  rw [h1]
  generalize x.toBitVec.toNat = n at *
  generalize 2 ^ pe = q at *
  simp only [Int.bmod]
  omega
def frG (M M' : aM) : Prop := ∀ a k, a ≠ 46 → a ≠ 47 → (a = 36 → k ≠ 3) → (a = 45 → k ≠ 2) → M'.1 a k = M.1 a k
end GUP
