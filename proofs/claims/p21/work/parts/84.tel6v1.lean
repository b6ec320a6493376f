/-! A ROW AS A NUMBER IN EIGHTS, and back -/
def codN (r : Nat → Nat) : Nat → Nat
  | 0 => 0
  | n + 1 => codN r n + (7 - r n) * 8 ^ (7 - n)
theorem codN_sum {W : Nat} {r : Nat → Nat} : ∀ n, n ≤ W → sumR cdG r (2 ^ W - 1) n = (codN r n : Int)
  | 0, _ => rfl
  | n + 1, h => by
    show sumR cdG r (2 ^ W - 1) n + (if (2 ^ W - 1).testBit n = true then cdG (r n) n else 0) = ((codN r n + (7 - r n) * 8 ^ (7 - n) : Nat) : Int)
    rw [codN_sum n (by omega), ful_bit (show n < W by omega), if_pos rfl, cdG_N, Int.natCast_add]
theorem codN_dvd {r : Nat → Nat} : ∀ n, n ≤ 8 → ∃ A, codN r n = 8 ^ (8 - n) * A
  | 0, _ => ⟨0, rfl⟩
  | n + 1, h => by
    obtain ⟨A, hA⟩ := codN_dvd (r := r) n (by omega)
    refine ⟨8 * A + (7 - r n), ?_⟩
    show codN r n + (7 - r n) * 8 ^ (7 - n) = 8 ^ (8 - (n + 1)) * (8 * A + (7 - r n))
    rw [hA, show 8 - n = (7 - n) + 1 by omega, show 8 - (n + 1) = 7 - n by omega, Nat.pow_succ, Nat.mul_add, Nat.mul_assoc, Nat.mul_comm (7 - r n)]
theorem codN_dig {r : Nat → Nat} {w : Nat} (hr : r w ≤ 7) : ∀ d, w + 1 + d ≤ 8 → codN r (w + 1 + d) / 8 ^ (7 - w) % 8 = 7 - r w
  | 0, h => by
    obtain ⟨A, hA⟩ := codN_dvd (r := r) w (by omega)
    show (codN r w + (7 - r w) * 8 ^ (7 - w)) / 8 ^ (7 - w) % 8 = 7 - r w
    have q0 : 0 < 8 ^ (7 - w) := Nat.pow_pos (by decide)
    rw [hA, show 8 - w = (7 - w) + 1 by omega, Nat.pow_succ, Nat.mul_assoc, Nat.mul_comm (7 - r w), ← Nat.mul_add, Nat.mul_div_cancel_left _ q0]
    omega
  | d + 1, h => by
    have ih := codN_dig (r := r) (w := w) hr d (by omega)
    obtain ⟨A, hA⟩ := codN_dvd (r := r) (w + 1 + d) (by omega)
    have e : w + 1 + (d + 1) = (w + 1 + d) + 1 := by omega
    rw [e]
    generalize hn : w + 1 + d = n at *
    show (codN r n + (7 - r n) * 8 ^ (7 - n)) / 8 ^ (7 - w) % 8 = 7 - r w
    have e2 : 7 - w = (8 - n) + (n - 1 - w) := by omega
    have q8 : 0 < 8 ^ (8 - n) := Nat.pow_pos (by decide)
    have z : (7 - r n) * 8 ^ (7 - n) < 8 ^ (8 - n) := by
      rw [show 8 - n = (7 - n) + 1 by omega, Nat.pow_succ]
      have q0 : 0 < 8 ^ (7 - n) := Nat.pow_pos (by decide)
      have : (7 - r n) * 8 ^ (7 - n) ≤ 7 * 8 ^ (7 - n) := Nat.mul_le_mul_right _ (Nat.sub_le _ _)
      omega
    rw [← ih, hA, e2, Nat.pow_add, ← Nat.div_div_eq_div_mul, ← Nat.div_div_eq_div_mul, Nat.mul_div_cancel_left _ q8, Nat.mul_add_div q8, Nat.div_eq_of_lt z, Nat.add_zero]
theorem codN_at {r : Nat → Nat} {w W : Nat} (hw : w < W) (hW : W ≤ 8) (hr : r w ≤ 7) : codN r W / 8 ^ (7 - w) % 8 = 7 - r w := by
  have := codN_dig (r := r) (w := w) hr (W - (w + 1)) (by omega)
  rw [show w + 1 + (W - (w + 1)) = W by omega] at this
  exact this
theorem shr_N {c k : Nat} (hc : c < 2 ^ 31) (hk : k < 32) : nI c >>> (nI k &&& 31) = nI (c / 2 ^ k) := by
  apply Int32.toInt_inj.mp
  have e : (nI k &&& 31) = nI k := by
    have : ∀ k : Fin 32, (nI k.val &&& 31) = nI k.val := by decide +kernel
    exact this ⟨k, hk⟩
  have e2 : (nI k).toBitVec.smod 32 = BitVec.ofNat 32 k := by
    have : ∀ k : Fin 32, (nI k.val).toBitVec.smod 32 = BitVec.ofNat 32 k.val := by decide +kernel
    exact this ⟨k, hk⟩
  have hd : c / 2 ^ k < 2 ^ 31 := Nat.lt_of_le_of_lt (Nat.div_le_self _ _) hc
  rw [e, nI_toInt hd]
  show (nI c >>> nI k).toBitVec.toInt = _
  rw [Int32.toBitVec_shiftRight, e2, BitVec.sshiftRight_eq', BitVec.toInt_sshiftRight, BitVec.toNat_ofNat, Nat.mod_eq_of_lt (show k < 2 ^ 32 by omega), Int.shiftRight_eq_div_pow]
  show (nI c).toInt / ((2 ^ k : Nat) : Int) = _
  rw [nI_toInt hc]
  rfl
/-! THE ROW THAT IS KEPT, in class and reference -/
section DOS
variable {l : aL} {M : aM} {H : HS} {x : Int32}
def KPt (H : HS) (M : aM) : Prop := (M.1 0 9 = Int32.ofInt (-1) ∧ M.1 58 45 = Int32.ofInt 0) ∨ ∃ la : Nat → Nat, (∀ w, w < H.wo → la w ≤ 5) ∧ M.1 0 9 = Int32.ofInt (sumR cdG la (2 ^ H.wo - 1) H.wo) ∧ M.1 58 45 = Int32.ofInt 1 ∧ ∀ w, w < H.wo → M.1 79 w = nI (la w)
def doO (H : HS) (M : aM) (x : Int32) : Option Int32 := if inN H.wo x ∧ ¬ M.1 58 45 = 0 then some (M.1 79 x.toNatClampNeg) else none
theorem of_N {n : Nat} (h : n < 2 ^ 31) : Int32.ofInt (n : Int) = nI n := Int32.toInt_inj.mp (by rw [Int32.toInt_ofInt_of_le (by omega) (by omega), nI_toInt h])
theorem pl_N : ∀ w, w < 8 → (Int32.ofInt 3) * (((Int8.ofInt 7).toInt32) - nI w) = nI (3 * (7 - w)) := by decide +kernel
theorem dig_I {c w : Nat} (hc : c < 16777216) (hw : w < 8) : (nI c >>> (((Int32.ofInt 3) * (((Int8.ofInt 7).toInt32) - nI w)) &&& 31)) &&& (Int8.ofInt 7).toInt32 = nI (c / 8 ^ (7 - w) % 8) := by
  have hd : c / 2 ^ (3 * (7 - w)) < 2 ^ 31 := Nat.lt_of_le_of_lt (Nat.div_le_self _ _) (by omega)
  rw [pl_N w hw, shr_N (by omega) (by omega), show (Int8.ofInt 7).toInt32 = nI 7 by decide, nI_andN hd (by decide)]
  have e : c / 2 ^ (3 * (7 - w)) &&& 7 = c / 2 ^ (3 * (7 - w)) % 8 := Nat.and_two_pow_sub_one_eq_mod _ 3
  rw [e, Nat.pow_mul]
theorem dri_c (hl0 : l.1.stackTraces = false) {c w : Nat} (hc : c < 16777216) (hw : w < 8) : AC l (pI pg 112) (fcI M (fun y M' => M' = M ∧ ((c / 8 ^ (7 - w) % 8 = 0 ∧ y = Int32.ofInt (-1)) ∨ (c / 8 ^ (7 - w) % 8 ≠ 0 ∧ y = nI (7 - c / 8 ^ (7 - w) % 8))))) 0 0 [.int (nI c), .int (nI w)] SHF M := by
  refine fw_of hl0 ⟨by decide +kernel, by decide +kernel, by decide +kernel⟩ rfl ?_
  have h8 : c / 8 ^ (7 - w) % 8 < 8 := Nat.mod_lt _ (by decide)
  have key := dig_I hc hw
  refine dri_0 hl0 _ (plc_c hl0) (fun y1 M1 e1 q1 h3 => ?_) (fun y1 M1 e1 q1 h3 => ?_)
  · obtain ⟨rfl, rfl⟩ := q1
    rw [key] at h3 ⊢
    generalize c / 8 ^ (7 - w) % 8 = d at *
    refine ⟨rfl, rfl, _, rfl, rfl, Or.inr ⟨fun e => h3 (by rw [e]; rfl), ?_⟩⟩
    rw [show (Int8.ofInt 7).toInt32 = nI 7 by decide]
    exact nI_subN (by omega) (by omega)
  · obtain ⟨rfl, rfl⟩ := q1
    rw [key, show (0 : Int32) = nI 0 from rfl, nI_eq (by omega) (by decide)] at h3
    exact ⟨rfl, rfl, _, rfl, rfl, Or.inl ⟨h3, rfl⟩⟩
theorem cod_N (w8 : H.wo ≤ 8) {la : Nat → Nat} : Int32.ofInt (sumR cdG la (2 ^ H.wo - 1) H.wo) = nI (codN la H.wo) ∧ codN la H.wo < 16777216 := by
  have h := cod_in (r := la) (t := 2 ^ H.wo - 1) w8
  rw [codN_sum H.wo (Nat.le_refl _)] at h ⊢
  exact ⟨of_N (by omega), by omega⟩
theorem dosa_c (hl0 : l.1.stackTraces = false) (hJ : JR RR M) (hI : HI H) (hH : cHo 4 H M) (hK : KPt H M) : AC l (pI pg 111) (tcO "java/util/NoSuchElementException" M (doO H M x)) 2 12 [.ref 0, .int x] SHF M := by
  have w8 := hI.2.1
  refine fw_of hl0 ⟨by decide +kernel, by decide +kernel, by decide +kernel⟩ rfl ?_
  refine dosa_0 (kc := 0) (ks := 0) hJ.2 hl0 (¬ inN H.wo x) (cwoa_c hl0 hJ hI hH) (fun b => ⟨rfl, rfl, Or.inl ⟨by rw [doO, if_neg (fun q => b q.1)], rfl⟩⟩) (fun y M' => M' = M ∧ doO H M x = some y) (fun b h4 => ?_) (fun b h4 y5 M5 e5 q5 => ?_) (fun b h4 => ?_)
  · have hy := Decidable.not_not.mp b
    have ly := inN_lt hy
    obtain ⟨la, k1, k2, k3, k4⟩ := hK.resolve_left (fun q => h4 q.1)
    obtain ⟨c1, c2⟩ := cod_N w8 (la := la)
    have c := dri_c (l := l) (M := M) (c := codN la H.wo) (w := x.toNatClampNeg) hl0 c2 (by omega)
    have l5 := k1 _ ly
    rw [codN_at ly w8 (by omega)] at c
    rw [k2, c1]
    rw [← inN_eq hy] at c
    refine AC.post hl0 (fun r sh' M' hp => ?_) c
    obtain ⟨r1, r2, z, r3, r4, r5⟩ := hp
    obtain ⟨-, rfl⟩ := r5.resolve_left (fun q => by have := q.1; omega)
    refine ⟨r1, r2, _, r3, r4, ?_⟩
    rw [doO, if_pos ⟨hy, by rw [k3]; decide⟩, k4 _ ly]
    exact congrArg (fun n => some (nI n)) (by omega)
  · obtain ⟨rfl, q5⟩ := q5
    exact ⟨rfl, rfl, Or.inr ⟨_, q5, rfl⟩⟩
  · refine ⟨rfl, rfl, Or.inl ⟨?_, rfl⟩⟩
    rcases hK with ⟨-, k2⟩ | ⟨la, -, k2, -⟩
    · rw [doO, if_neg (fun q => q.2 k2)]
    · obtain ⟨c1, c2⟩ := cod_N w8 (la := la)
      rw [k2, c1] at h4
      exact absurd h4 (nI_nm1 (by omega))
theorem dosb_c (hl0 : l.1.stackTraces = false) (hJ : JR RRS M) (hI : HI H) (hH : cHo 17 H M) (hK : KPt H M) : AC l (pI pg 111) (tcO "java/util/NoSuchElementException" M (doO H M x)) 2 12 [.ref 0, .int x] SHF M := by
  have w8 := hI.2.1
  refine fw_of hl0 ⟨by decide +kernel, by decide +kernel, by decide +kernel⟩ rfl ?_
  refine dosb_0 (kc := 0) (ks := 0) hJ.2 hl0 (¬ inN H.wo x) (cwob_c hl0 hJ hI hH) (fun b => ⟨rfl, rfl, Or.inl ⟨by rw [doO, if_neg (fun q => b q.1)], rfl⟩⟩) (fun y M' => M' = M ∧ doO H M x = some y) (fun b h4 => ?_) (fun b h4 y5 M5 e5 q5 => ?_) (fun b h4 => ?_)
  · have hy := Decidable.not_not.mp b
    have ly := inN_lt hy
    obtain ⟨la, k1, k2, k3, k4⟩ := hK.resolve_left (fun q => h4 q.1)
    obtain ⟨c1, c2⟩ := cod_N w8 (la := la)
    have c := dri_c (l := l) (M := M) (c := codN la H.wo) (w := x.toNatClampNeg) hl0 c2 (by omega)
    have l5 := k1 _ ly
    rw [codN_at ly w8 (by omega)] at c
    rw [k2, c1]
    rw [← inN_eq hy] at c
    refine AC.post hl0 (fun r sh' M' hp => ?_) c
    obtain ⟨r1, r2, z, r3, r4, r5⟩ := hp
    obtain ⟨-, rfl⟩ := r5.resolve_left (fun q => by have := q.1; omega)
    refine ⟨r1, r2, _, r3, r4, ?_⟩
    rw [doO, if_pos ⟨hy, by rw [k3]; decide⟩, k4 _ ly]
    exact congrArg (fun n => some (nI n)) (by omega)
  · obtain ⟨rfl, q5⟩ := q5
    exact ⟨rfl, rfl, Or.inr ⟨_, q5, rfl⟩⟩
  · refine ⟨rfl, rfl, Or.inl ⟨?_, rfl⟩⟩
    rcases hK with ⟨-, k2⟩ | ⟨la, -, k2, -⟩
    · rw [doO, if_neg (fun q => q.2 k2)]
    · obtain ⟨c1, c2⟩ := cod_N w8 (la := la)
      rw [k2, c1] at h4
      exact absurd h4 (nI_nm1 (by omega))
theorem mds_c (hl0 : l.1.stackTraces = false) (hR : ∀ e ∈ RM, M.2.2 e.1 e.2.1 = e.2.2) (hI : HI H) (hm : mHo H M) : AC l (pI pg 214) (fcI M (fun z M' => mO (doO H M x) z M')) 0 0 [.ref 58, .int x] SHF M := by
  have w8 := hI.2.1
  refine fw_of hl0 ⟨by decide +kernel, by decide +kernel, by decide +kernel⟩ rfl ?_
  have z1 : ¬ (1 : Int32) = 0 := by decide
  refine mds_0 hR hl0 _ (isw_c (m := H.wo) hl0 hR (by omega) hm.2.1) (fun y1 M1 e1 q1 h3 => ?_) (fun _ _ z M' => (¬ M.1 58 45 = 0 ∧ z = 1 ∧ M' = M0w M) ∨ (M.1 58 45 = 0 ∧ z = 0 ∧ M' = M1w M)) (fun y1 M1 e1 q1 h3 => ?_) (fun y1 M1 e1 q1 h3 y5 M5 e5 q5 h7 => ?_) (fun y1 M1 e1 q1 h3 y5 M5 e5 q5 h7 => ?_) (fun y1 M1 e1 q1 h3 y5 M5 e5 q5 h7 => ?_)
  · obtain ⟨n1, -, rfl⟩ := q1.resolve_left (fun q => absurd (q.2.1.symm.trans h3) z1)
    exact ⟨rfl, e1, _, rfl, Or.inl ⟨by rw [doO, if_neg (fun q => n1 q.1)], rfl⟩⟩
  · obtain ⟨-, -, rfl⟩ := q1.resolve_right (fun q => h3 q.2.1)
    exact rgh_c hl0 hR
  · obtain ⟨n5, -, rfl⟩ := q5.resolve_left (fun q => absurd (q.2.1.symm.trans h7) z1)
    exact ⟨rfl, e5.trans e1, _, rfl, Or.inl ⟨by rw [doO, if_neg (fun q => q.2 n5)], rfl⟩⟩
  · obtain ⟨n1, -, -⟩ := q1.resolve_right (fun q => h3 q.2.1)
    exact inN_vp n1 (by omega) (by decide)
  · obtain ⟨n1, -, -⟩ := q1.resolve_right (fun q => h3 q.2.1)
    obtain ⟨n5, -, rfl⟩ := q5.resolve_right (fun q => h7 q.2.1)
    exact ⟨rfl, e5.trans e1, _, rfl, Or.inr ⟨_, by rw [doO, if_pos ⟨n1, n5⟩]; rfl, rfl, rfl⟩⟩
end DOS
