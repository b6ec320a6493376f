/-! stretches of the tokens' methods, printed by wip/gen/segs_t.py -/
def blV (x : Int32) : Int32 := if x = (Int8.ofInt 32).toInt32 then Int32.ofInt 1 else if x = (Int8.ofInt 10).toInt32 then Int32.ofInt 1 else Int32.ofInt 0
def leV (x : Int32) : Int32 := if x < (Int8.ofInt 97).toInt32 then Int32.ofInt 0 else if (Int8.ofInt 122).toInt32 < x then Int32.ofInt 0 else Int32.ofInt 1
def diV (x : Int32) : Int32 := if x < (Int8.ofInt 48).toInt32 then Int32.ofInt 0 else if (Int8.ofInt 57).toInt32 < x then Int32.ofInt 0 else Int32.ofInt 1
def byV (M : aM) (k : Int32) : Int32 := if M.1 58 16 ≤ k then Int32.ofInt 0 else M.1 65 k.toNatClampNeg
def pvI (M : aM) (v : Int32) : aP := fcI M (fun y M' => v = y ∧ M = M')
theorem pvI_of {M : aM} {v : Int32} : pvI M v (.inl (some (.int v))) SHF M := ⟨rfl, rfl, _, rfl, rfl, rfl⟩
theorem tkBl_0 {l : aL} {P : aP} {kc ks : Nat} {x : Int32} {M : aM}   (r2 : ∀ (h1 : (x : Int32) = ((Int8.ofInt 32).toInt32 : Int32)), P (.inl (some (.int (Int32.ofInt 1)))) SHF M) (r4 : ∀ (h1 : ¬ ((x : Int32) = ((Int8.ofInt 32).toInt32 : Int32))), ∀ (h3 : ¬ (x : Int32) = ((Int8.ofInt 10).toInt32 : Int32)), P (.inl (some (.int (Int32.ofInt 0)))) SHF M) (r5 : ∀ (h1 : ¬ ((x : Int32) = ((Int8.ofInt 32).toInt32 : Int32))), ∀ (h3 : (x : Int32) = ((Int8.ofInt 10).toInt32 : Int32)), P (.inl (some (.int (Int32.ofInt 1)))) SHF M) : AW l (pI pg 49) P kc ks 0 [(0, .int (x))] [] SHF M := by
  refine AW.iload_n (dq rfl) rfl ?_
  show AW l (pI pg 49) P kc ks 1 _ _ SHF _
  refine AW.bipush (dq rfl) ?_
  show AW l (pI pg 49) P kc ks 3 _ _ SHF _
  refine AW.icmp_eq (dq rfl) (tgt := 12) (by decide) (fun h1 => ?_) (fun h1 => ?_)
  · have _ := h1
    refine AW.iconst (dq rfl) ?_
    show AW l (pI pg 49) P kc ks 13 _ _ SHF _
    refine AW.goto (dq rfl) (tgt := 17) (by decide) ?_
    refine AW.zret (dq rfl) rfl (by decide) ?_
    exact r2 h1
  · have _ := h1
    refine AW.iload_n (dq rfl) rfl ?_
    show AW l (pI pg 49) P kc ks 7 _ _ SHF _
    refine AW.bipush (dq rfl) ?_
    show AW l (pI pg 49) P kc ks 9 _ _ SHF _
    refine AW.icmp_ne (dq rfl) (tgt := 16) (by decide) (fun h3 => ?_) (fun h3 => ?_)
    · have _ := h3
      refine AW.iconst (dq rfl) ?_
      show AW l (pI pg 49) P kc ks 17 _ _ SHF _
      refine AW.zret (dq rfl) rfl (by decide) ?_
      exact r4 h1 h3
    · have _ := h3
      refine AW.iconst (dq rfl) ?_
      show AW l (pI pg 49) P kc ks 13 _ _ SHF _
      refine AW.goto (dq rfl) (tgt := 17) (by decide) ?_
      refine AW.zret (dq rfl) rfl (by decide) ?_
      exact r5 h1 h3

theorem tkBl_c {l : aL} (hl0 : l.1.stackTraces = false) {x : Int32} {M : aM} : AC l (pI pg 49) (pvI M (blV x)) 0 0 [.int x] SHF M := by
  refine fw_of hl0 ⟨by decide +kernel, by decide +kernel, by decide +kernel⟩ rfl ?_
  refine tkBl_0 (fun h1 => ?_) (fun h1 h3 => ?_) (fun h1 h3 => ?_)
  · rw [show blV x = Int32.ofInt 1 by unfold blV; rw [if_pos h1]]
    exact pvI_of
  · rw [show blV x = Int32.ofInt 0 by unfold blV; rw [if_neg h1, if_neg h3]]
    exact pvI_of
  · rw [show blV x = Int32.ofInt 1 by unfold blV; rw [if_neg h1, if_pos h3]]
    exact pvI_of
theorem tkLe_0 {l : aL} {P : aP} {kc ks : Nat} {x : Int32} {M : aM}   (r2 : ∀ (h1 : (x : Int32) < ((Int8.ofInt 97).toInt32 : Int32)), P (.inl (some (.int (Int32.ofInt 0)))) SHF M) (r4 : ∀ (h1 : ¬ ((x : Int32) < ((Int8.ofInt 97).toInt32 : Int32))), ∀ (h3 : ((Int8.ofInt 122).toInt32 : Int32) < (x : Int32)), P (.inl (some (.int (Int32.ofInt 0)))) SHF M) (r5 : ∀ (h1 : ¬ ((x : Int32) < ((Int8.ofInt 97).toInt32 : Int32))), ∀ (h3 : ¬ (((Int8.ofInt 122).toInt32 : Int32) < (x : Int32))), P (.inl (some (.int (Int32.ofInt 1)))) SHF M) : AW l (pI pg 50) P kc ks 0 [(0, .int (x))] [] SHF M := by
  refine AW.iload_n (dq rfl) rfl ?_
  show AW l (pI pg 50) P kc ks 1 _ _ SHF _
  refine AW.bipush (dq rfl) ?_
  show AW l (pI pg 50) P kc ks 3 _ _ SHF _
  refine AW.icmp_lt (dq rfl) (tgt := 16) (by decide) (fun h1 => ?_) (fun h1 => ?_)
  · have _ := h1
    refine AW.iconst (dq rfl) ?_
    show AW l (pI pg 50) P kc ks 17 _ _ SHF _
    refine AW.zret (dq rfl) rfl (by decide) ?_
    exact r2 h1
  · have _ := h1
    refine AW.iload_n (dq rfl) rfl ?_
    show AW l (pI pg 50) P kc ks 7 _ _ SHF _
    refine AW.bipush (dq rfl) ?_
    show AW l (pI pg 50) P kc ks 9 _ _ SHF _
    refine AW.icmp_gt (dq rfl) (tgt := 16) (by decide) (fun h3 => ?_) (fun h3 => ?_)
    · have _ := h3
      refine AW.iconst (dq rfl) ?_
      show AW l (pI pg 50) P kc ks 17 _ _ SHF _
      refine AW.zret (dq rfl) rfl (by decide) ?_
      exact r4 h1 h3
    · have _ := h3
      refine AW.iconst (dq rfl) ?_
      show AW l (pI pg 50) P kc ks 13 _ _ SHF _
      refine AW.goto (dq rfl) (tgt := 17) (by decide) ?_
      refine AW.zret (dq rfl) rfl (by decide) ?_
      exact r5 h1 h3

theorem tkLe_c {l : aL} (hl0 : l.1.stackTraces = false) {x : Int32} {M : aM} : AC l (pI pg 50) (pvI M (leV x)) 0 0 [.int x] SHF M := by
  refine fw_of hl0 ⟨by decide +kernel, by decide +kernel, by decide +kernel⟩ rfl ?_
  refine tkLe_0 (fun h1 => ?_) (fun h1 h3 => ?_) (fun h1 h3 => ?_)
  · rw [show leV x = Int32.ofInt 0 by unfold leV; rw [if_pos h1]]
    exact pvI_of
  · rw [show leV x = Int32.ofInt 0 by unfold leV; rw [if_neg h1, if_pos h3]]
    exact pvI_of
  · rw [show leV x = Int32.ofInt 1 by unfold leV; rw [if_neg h1, if_neg h3]]
    exact pvI_of
theorem tkDi_0 {l : aL} {P : aP} {kc ks : Nat} {x : Int32} {M : aM}   (r2 : ∀ (h1 : (x : Int32) < ((Int8.ofInt 48).toInt32 : Int32)), P (.inl (some (.int (Int32.ofInt 0)))) SHF M) (r4 : ∀ (h1 : ¬ ((x : Int32) < ((Int8.ofInt 48).toInt32 : Int32))), ∀ (h3 : ((Int8.ofInt 57).toInt32 : Int32) < (x : Int32)), P (.inl (some (.int (Int32.ofInt 0)))) SHF M) (r5 : ∀ (h1 : ¬ ((x : Int32) < ((Int8.ofInt 48).toInt32 : Int32))), ∀ (h3 : ¬ (((Int8.ofInt 57).toInt32 : Int32) < (x : Int32))), P (.inl (some (.int (Int32.ofInt 1)))) SHF M) : AW l (pI pg 51) P kc ks 0 [(0, .int (x))] [] SHF M := by
  refine AW.iload_n (dq rfl) rfl ?_
  show AW l (pI pg 51) P kc ks 1 _ _ SHF _
  refine AW.bipush (dq rfl) ?_
  show AW l (pI pg 51) P kc ks 3 _ _ SHF _
  refine AW.icmp_lt (dq rfl) (tgt := 16) (by decide) (fun h1 => ?_) (fun h1 => ?_)
  · have _ := h1
    refine AW.iconst (dq rfl) ?_
    show AW l (pI pg 51) P kc ks 17 _ _ SHF _
    refine AW.zret (dq rfl) rfl (by decide) ?_
    exact r2 h1
  · have _ := h1
    refine AW.iload_n (dq rfl) rfl ?_
    show AW l (pI pg 51) P kc ks 7 _ _ SHF _
    refine AW.bipush (dq rfl) ?_
    show AW l (pI pg 51) P kc ks 9 _ _ SHF _
    refine AW.icmp_gt (dq rfl) (tgt := 16) (by decide) (fun h3 => ?_) (fun h3 => ?_)
    · have _ := h3
      refine AW.iconst (dq rfl) ?_
      show AW l (pI pg 51) P kc ks 17 _ _ SHF _
      refine AW.zret (dq rfl) rfl (by decide) ?_
      exact r4 h1 h3
    · have _ := h3
      refine AW.iconst (dq rfl) ?_
      show AW l (pI pg 51) P kc ks 13 _ _ SHF _
      refine AW.goto (dq rfl) (tgt := 17) (by decide) ?_
      refine AW.zret (dq rfl) rfl (by decide) ?_
      exact r5 h1 h3

theorem tkDi_c {l : aL} (hl0 : l.1.stackTraces = false) {x : Int32} {M : aM} : AC l (pI pg 51) (pvI M (diV x)) 0 0 [.int x] SHF M := by
  refine fw_of hl0 ⟨by decide +kernel, by decide +kernel, by decide +kernel⟩ rfl ?_
  refine tkDi_0 (fun h1 => ?_) (fun h1 h3 => ?_) (fun h1 h3 => ?_)
  · rw [show diV x = Int32.ofInt 0 by unfold diV; rw [if_pos h1]]
    exact pvI_of
  · rw [show diV x = Int32.ofInt 0 by unfold diV; rw [if_neg h1, if_pos h3]]
    exact pvI_of
  · rw [show diV x = Int32.ofInt 1 by unfold diV; rw [if_neg h1, if_neg h3]]
    exact pvI_of
theorem mdLe_0 {l : aL} {P : aP} {kc ks : Nat} {x : Int32} {M : aM}   (r2 : ∀ (h1 : (x : Int32) < ((Int8.ofInt 97).toInt32 : Int32)), P (.inl (some (.int (Int32.ofInt 0)))) SHF M) (r4 : ∀ (h1 : ¬ ((x : Int32) < ((Int8.ofInt 97).toInt32 : Int32))), ∀ (h3 : ((Int8.ofInt 122).toInt32 : Int32) < (x : Int32)), P (.inl (some (.int (Int32.ofInt 0)))) SHF M) (r5 : ∀ (h1 : ¬ ((x : Int32) < ((Int8.ofInt 97).toInt32 : Int32))), ∀ (h3 : ¬ (((Int8.ofInt 122).toInt32 : Int32) < (x : Int32))), P (.inl (some (.int (Int32.ofInt 1)))) SHF M) : AW l (pI pg 178) P kc ks 0 [(0, .int (x))] [] SHF M := by
  refine AW.iload_n (dq rfl) rfl ?_
  show AW l (pI pg 178) P kc ks 1 _ _ SHF _
  refine AW.bipush (dq rfl) ?_
  show AW l (pI pg 178) P kc ks 3 _ _ SHF _
  refine AW.icmp_lt (dq rfl) (tgt := 16) (by decide) (fun h1 => ?_) (fun h1 => ?_)
  · have _ := h1
    refine AW.iconst (dq rfl) ?_
    show AW l (pI pg 178) P kc ks 17 _ _ SHF _
    refine AW.zret (dq rfl) rfl (by decide) ?_
    exact r2 h1
  · have _ := h1
    refine AW.iload_n (dq rfl) rfl ?_
    show AW l (pI pg 178) P kc ks 7 _ _ SHF _
    refine AW.bipush (dq rfl) ?_
    show AW l (pI pg 178) P kc ks 9 _ _ SHF _
    refine AW.icmp_gt (dq rfl) (tgt := 16) (by decide) (fun h3 => ?_) (fun h3 => ?_)
    · have _ := h3
      refine AW.iconst (dq rfl) ?_
      show AW l (pI pg 178) P kc ks 17 _ _ SHF _
      refine AW.zret (dq rfl) rfl (by decide) ?_
      exact r4 h1 h3
    · have _ := h3
      refine AW.iconst (dq rfl) ?_
      show AW l (pI pg 178) P kc ks 13 _ _ SHF _
      refine AW.goto (dq rfl) (tgt := 17) (by decide) ?_
      refine AW.zret (dq rfl) rfl (by decide) ?_
      exact r5 h1 h3

theorem mdLe_c {l : aL} (hl0 : l.1.stackTraces = false) {x : Int32} {M : aM} : AC l (pI pg 178) (pvI M (leV x)) 0 0 [.int x] SHF M := by
  refine fw_of hl0 ⟨by decide +kernel, by decide +kernel, by decide +kernel⟩ rfl ?_
  refine mdLe_0 (fun h1 => ?_) (fun h1 h3 => ?_) (fun h1 h3 => ?_)
  · rw [show leV x = Int32.ofInt 0 by unfold leV; rw [if_pos h1]]
    exact pvI_of
  · rw [show leV x = Int32.ofInt 0 by unfold leV; rw [if_neg h1, if_pos h3]]
    exact pvI_of
  · rw [show leV x = Int32.ofInt 1 by unfold leV; rw [if_neg h1, if_neg h3]]
    exact pvI_of
theorem mdDi_0 {l : aL} {P : aP} {kc ks : Nat} {x : Int32} {M : aM}   (r2 : ∀ (h1 : (x : Int32) < ((Int8.ofInt 48).toInt32 : Int32)), P (.inl (some (.int (Int32.ofInt 0)))) SHF M) (r4 : ∀ (h1 : ¬ ((x : Int32) < ((Int8.ofInt 48).toInt32 : Int32))), ∀ (h3 : ((Int8.ofInt 57).toInt32 : Int32) < (x : Int32)), P (.inl (some (.int (Int32.ofInt 0)))) SHF M) (r5 : ∀ (h1 : ¬ ((x : Int32) < ((Int8.ofInt 48).toInt32 : Int32))), ∀ (h3 : ¬ (((Int8.ofInt 57).toInt32 : Int32) < (x : Int32))), P (.inl (some (.int (Int32.ofInt 1)))) SHF M) : AW l (pI pg 179) P kc ks 0 [(0, .int (x))] [] SHF M := by
  refine AW.iload_n (dq rfl) rfl ?_
  show AW l (pI pg 179) P kc ks 1 _ _ SHF _
  refine AW.bipush (dq rfl) ?_
  show AW l (pI pg 179) P kc ks 3 _ _ SHF _
  refine AW.icmp_lt (dq rfl) (tgt := 16) (by decide) (fun h1 => ?_) (fun h1 => ?_)
  · have _ := h1
    refine AW.iconst (dq rfl) ?_
    show AW l (pI pg 179) P kc ks 17 _ _ SHF _
    refine AW.zret (dq rfl) rfl (by decide) ?_
    exact r2 h1
  · have _ := h1
    refine AW.iload_n (dq rfl) rfl ?_
    show AW l (pI pg 179) P kc ks 7 _ _ SHF _
    refine AW.bipush (dq rfl) ?_
    show AW l (pI pg 179) P kc ks 9 _ _ SHF _
    refine AW.icmp_gt (dq rfl) (tgt := 16) (by decide) (fun h3 => ?_) (fun h3 => ?_)
    · have _ := h3
      refine AW.iconst (dq rfl) ?_
      show AW l (pI pg 179) P kc ks 17 _ _ SHF _
      refine AW.zret (dq rfl) rfl (by decide) ?_
      exact r4 h1 h3
    · have _ := h3
      refine AW.iconst (dq rfl) ?_
      show AW l (pI pg 179) P kc ks 13 _ _ SHF _
      refine AW.goto (dq rfl) (tgt := 17) (by decide) ?_
      refine AW.zret (dq rfl) rfl (by decide) ?_
      exact r5 h1 h3

theorem mdDi_c {l : aL} (hl0 : l.1.stackTraces = false) {x : Int32} {M : aM} : AC l (pI pg 179) (pvI M (diV x)) 0 0 [.int x] SHF M := by
  refine fw_of hl0 ⟨by decide +kernel, by decide +kernel, by decide +kernel⟩ rfl ?_
  refine mdDi_0 (fun h1 => ?_) (fun h1 h3 => ?_) (fun h1 h3 => ?_)
  · rw [show diV x = Int32.ofInt 0 by unfold diV; rw [if_pos h1]]
    exact pvI_of
  · rw [show diV x = Int32.ofInt 0 by unfold diV; rw [if_neg h1, if_pos h3]]
    exact pvI_of
  · rw [show diV x = Int32.ofInt 1 by unfold diV; rw [if_neg h1, if_neg h3]]
    exact pvI_of
theorem byt_0 {l : aL} {P : aP} {kc ks : Nat} {k : Int32} {M : aM} (hJ : ∀ e ∈ RM, M.2.2 e.1 e.2.1 = e.2.2)  (r2 : ∀ (h1 : (M.1 58 16 : Int32) ≤ (k : Int32)), P (.inl (some (.int (Int32.ofInt 0)))) SHF M) (o3 : ∀ (h1 : ¬ ((M.1 58 16 : Int32) ≤ (k : Int32))), vp_in (k) 800) (r4 : ∀ (h1 : ¬ ((M.1 58 16 : Int32) ≤ (k : Int32))), P (.inl (some (.int (M.1 65 (k).toNatClampNeg)))) SHF M) : AW l (pI pg 177) P kc ks 0 [(0, .ref 58), (1, .int (k))] [] SHF M := by
  refine AW.iload_n (dq rfl) rfl ?_
  show AW l (pI pg 177) P kc ks 1 _ _ SHF _
  refine AW.aload_n (dq rfl) rfl rfl ?_
  show AW l (pI pg 177) P kc ks 2 _ _ SHF _
  refine fw_get (dq rfl) (pg_ok.2.1 177 _ _ _ _ rfl) rfl (v := .int (M.1 58 16)) rfl ?_
  show AW l (pI pg 177) P kc ks 5 _ _ SHF _
  refine AW.icmp_ge (dq rfl) (tgt := 17) (by decide) (fun h1 => ?_) (fun h1 => ?_)
  · have _ := h1
    refine AW.iconst (dq rfl) ?_
    show AW l (pI pg 177) P kc ks 18 _ _ SHF _
    refine AW.iret (dq rfl) rfl ?_
    exact r2 h1
  · have _ := h1
    refine AW.aload_n (dq rfl) rfl rfl ?_
    show AW l (pI pg 177) P kc ks 9 _ _ SHF _
    refine fw_get (dq rfl) (pg_ok.2.1 177 _ _ _ _ rfl) rfl (v := .ref 65) (isTA_ok rfl (rgR_ok hJ rfl)) ?_
    show AW l (pI pg 177) P kc ks 12 _ _ SHF _
    refine AW.iload_n (dq rfl) rfl ?_
    show AW l (pI pg 177) P kc ks 13 _ _ SHF _
    refine AW.iald (dq rfl) rfl (o3 h1) ?_
    show AW l (pI pg 177) P kc ks 14 _ _ SHF _
    refine AW.goto (dq rfl) (tgt := 18) (by decide) ?_
    refine AW.iret (dq rfl) rfl ?_
    exact r4 h1

theorem byt_c {l : aL} (hl0 : l.1.stackTraces = false) {k : Int32} {M : aM} (hJ : ∀ e ∈ RM, M.2.2 e.1 e.2.1 = e.2.2) (ho : ¬ M.1 58 16 ≤ k → vp_in k 800) : AC l (pI pg 177) (pvI M (byV M k)) 0 0 [.ref 58, .int k] SHF M := by
  refine fw_of hl0 ⟨by decide +kernel, by decide +kernel, by decide +kernel⟩ rfl ?_
  refine byt_0 hJ (fun h1 => ?_) ho (fun h1 => ?_)
  · rw [show byV M k = Int32.ofInt 0 by unfold byV; rw [if_pos h1]]
    exact pvI_of
  · rw [show byV M k = M.1 65 k.toNatClampNeg by unfold byV; rw [if_neg h1]]
    exact pvI_of

theorem adv_0 {l : aL} {P : aP} {kc ks : Nat} {M : aM} (hJ : ∀ e ∈ RT2, M.2.2 e.1 e.2.1 = e.2.2) (hl0 : l.1.stackTraces = false) (k1 : AW l (pI pg 48) P kc ks 8 [(0, .ref 2)] [] SHF (aset M 2 4 (.int (M.1 2 5)))) : AW l (pI pg 48) P kc ks 0 [(0, .ref 2)] [] SHF M := by
  refine AW.aload_n (dq rfl) rfl rfl ?_
  show AW l (pI pg 48) P kc ks 1 _ _ SHF _
  refine AW.aload_n (dq rfl) rfl rfl ?_
  show AW l (pI pg 48) P kc ks 2 _ _ SHF _
  refine fw_get (dq rfl) (pg_ok.2.1 48 _ _ _ _ rfl) rfl (v := .int (M.1 2 5)) rfl ?_
  show AW l (pI pg 48) P kc ks 5 _ _ SHF _
  refine fw_putI (dq rfl) (pg_ok.2.1 48 _ _ _ _ rfl) rfl rfl rfl ?_
  show AW l (pI pg 48) P kc ks 8 _ _ SHF _
  refine AW.drop (lv' := [(0, .ref 2)]) (List.forall_mem_cons.mpr ⟨List.mem_of_getElem? (i := 0) rfl, fun _ h => absurd h List.not_mem_nil⟩) ?_
  exact k1

theorem adv_8 {l : aL} {P : aP} {kc ks : Nat} {M : aM} (hJ : ∀ e ∈ RT2, M.2.2 e.1 e.2.1 = e.2.2) (hl0 : l.1.stackTraces = false) (k2 : ∀ (h1 : (M.1 2 2 : Int32) ≤ (M.1 2 4 : Int32)), AW l (pI pg 48) P kc ks 47 [(0, .ref 2)] [] SHF M) (o3 : ∀ (h1 : ¬ ((M.1 2 2 : Int32) ≤ (M.1 2 4 : Int32))), vp_in (M.1 2 4) 800) (k6 : ∀ (h1 : ¬ ((M.1 2 2 : Int32) ≤ (M.1 2 4 : Int32))), ∀ (h5 : (blV (M.1 3 (M.1 2 4).toNatClampNeg) : Int32) = 0), AW l (pI pg 48) P kc ks 47 [(0, .ref 2)] [] SHF M) (k7 : ∀ (h1 : ¬ ((M.1 2 2 : Int32) ≤ (M.1 2 4 : Int32))), ∀ (h5 : ¬ ((blV (M.1 3 (M.1 2 4).toNatClampNeg) : Int32) = 0)), AW l (pI pg 48) P kc ks 8 [(0, .ref 2)] [] SHF (aset M 2 4 (.int ((M.1 2 4) + (Int32.ofInt 1))))) : AW l (pI pg 48) P kc ks 8 [(0, .ref 2)] [] SHF M := by
  refine AW.aload_n (dq rfl) rfl rfl ?_
  show AW l (pI pg 48) P kc ks 9 _ _ SHF _
  refine fw_get (dq rfl) (pg_ok.2.1 48 _ _ _ _ rfl) rfl (v := .int (M.1 2 4)) rfl ?_
  show AW l (pI pg 48) P kc ks 12 _ _ SHF _
  refine AW.aload_n (dq rfl) rfl rfl ?_
  show AW l (pI pg 48) P kc ks 13 _ _ SHF _
  refine fw_get (dq rfl) (pg_ok.2.1 48 _ _ _ _ rfl) rfl (v := .int (M.1 2 2)) rfl ?_
  show AW l (pI pg 48) P kc ks 16 _ _ SHF _
  refine AW.icmp_ge (dq rfl) (tgt := 47) (by decide) (fun h1 => ?_) (fun h1 => ?_)
  · have _ := h1
    refine AW.drop (lv' := [(0, .ref 2)]) (List.forall_mem_cons.mpr ⟨List.mem_of_getElem? (i := 0) rfl, fun _ h => absurd h List.not_mem_nil⟩) ?_
    exact k2 h1
  · have _ := h1
    refine AW.aload_n (dq rfl) rfl rfl ?_
    show AW l (pI pg 48) P kc ks 20 _ _ SHF _
    refine fw_get (dq rfl) (pg_ok.2.1 48 _ _ _ _ rfl) rfl (v := .ref 3) (isTA_ok rfl (rgR_ok hJ rfl)) ?_
    show AW l (pI pg 48) P kc ks 23 _ _ SHF _
    refine AW.aload_n (dq rfl) rfl rfl ?_
    show AW l (pI pg 48) P kc ks 24 _ _ SHF _
    refine fw_get (dq rfl) (pg_ok.2.1 48 _ _ _ _ rfl) rfl (v := .int (M.1 2 4)) rfl ?_
    show AW l (pI pg 48) P kc ks 27 _ _ SHF _
    refine AW.bald (dq rfl) rfl (o3 h1) ?_
    show AW l (pI pg 48) P kc ks 28 _ _ SHF _
    refine fw_callSI (as := [.int (M.1 3 (M.1 2 4).toNatClampNeg)]) (dq rfl) (pg_ok.2.2.1 48 _ _ _ _ rfl) (by decide +kernel) rfl rfl (tkBl_c hl0) (fun y4 M4 e4 q4 => ?_)
    obtain ⟨rfl, rfl⟩ := q4
    show AW l (pI pg 48) P kc ks 31 [(0, .ref 2)] [.int (blV (M.1 3 (M.1 2 4).toNatClampNeg))] SHF _
    refine AW.if_eq (dq rfl) (tgt := 47) (by decide) (fun h5 => ?_) (fun h5 => ?_)
    · have _ := h5
      refine AW.drop (lv' := [(0, .ref 2)]) (List.forall_mem_cons.mpr ⟨List.mem_of_getElem? (i := 0) rfl, fun _ h => absurd h List.not_mem_nil⟩) ?_
      exact k6 h1 h5
    · have _ := h5
      refine AW.aload_n (dq rfl) rfl rfl ?_
      show AW l (pI pg 48) P kc ks 35 _ _ SHF _
      refine AW.dup (dq rfl) rfl ?_
      show AW l (pI pg 48) P kc ks 36 _ _ SHF _
      refine fw_get (dq rfl) (pg_ok.2.1 48 _ _ _ _ rfl) rfl (v := .int (M.1 2 4)) rfl ?_
      show AW l (pI pg 48) P kc ks 39 _ _ SHF _
      refine AW.iconst (dq rfl) ?_
      show AW l (pI pg 48) P kc ks 40 _ _ SHF _
      refine AW.iadd (dq rfl) ?_
      show AW l (pI pg 48) P kc ks 41 _ _ SHF _
      refine fw_putI (dq rfl) (pg_ok.2.1 48 _ _ _ _ rfl) rfl rfl rfl ?_
      show AW l (pI pg 48) P kc ks 44 _ _ SHF _
      refine AW.goto (dq rfl) (tgt := 8) (by decide) ?_
      refine AW.drop (lv' := [(0, .ref 2)]) (List.forall_mem_cons.mpr ⟨List.mem_of_getElem? (i := 0) rfl, fun _ h => absurd h List.not_mem_nil⟩) ?_
      exact k7 h1 h5

theorem adv_47 {l : aL} {P : aP} {kc ks : Nat} {M : aM} (hJ : ∀ e ∈ RT2, M.2.2 e.1 e.2.1 = e.2.2) (hl0 : l.1.stackTraces = false) (o2 : ∀ (h1 : ((aset M 2 5 (.int (M.1 2 4))).1 2 4 : Int32) < ((aset M 2 5 (.int (M.1 2 4))).1 2 2 : Int32)), vp_in ((aset M 2 5 (.int (M.1 2 4))).1 2 4) 800) (r8 : ∀ (h1 : ((aset M 2 5 (.int (M.1 2 4))).1 2 4 : Int32) < ((aset M 2 5 (.int (M.1 2 4))).1 2 2 : Int32)), ∀ (h4 : (leV ((aset M 2 5 (.int (M.1 2 4))).1 3 ((aset M 2 5 (.int (M.1 2 4))).1 2 4).toNatClampNeg) : Int32) = 0), ∀ (h6 : (diV ((aset M 2 5 (.int (M.1 2 4))).1 3 ((aset M 2 5 (.int (M.1 2 4))).1 2 4).toNatClampNeg) : Int32) = 0), ∀ (h7 : ¬ ((aset M 2 5 (.int (M.1 2 4))).1 3 ((aset M 2 5 (.int (M.1 2 4))).1 2 4).toNatClampNeg : Int32) = ((Int8.ofInt 59).toInt32 : Int32)), P (.inl none) SHF (aset (aset (aset M 2 5 (.int (M.1 2 4))) 2 3 (.int (Int32.ofInt 4))) 2 5 (.int (((aset (aset M 2 5 (.int (M.1 2 4))) 2 3 (.int (Int32.ofInt 4))).1 2 5) + (Int32.ofInt 1))))) (r9 : ∀ (h1 : ((aset M 2 5 (.int (M.1 2 4))).1 2 4 : Int32) < ((aset M 2 5 (.int (M.1 2 4))).1 2 2 : Int32)), ∀ (h4 : (leV ((aset M 2 5 (.int (M.1 2 4))).1 3 ((aset M 2 5 (.int (M.1 2 4))).1 2 4).toNatClampNeg) : Int32) = 0), ∀ (h6 : (diV ((aset M 2 5 (.int (M.1 2 4))).1 3 ((aset M 2 5 (.int (M.1 2 4))).1 2 4).toNatClampNeg) : Int32) = 0), ∀ (h7 : ((aset M 2 5 (.int (M.1 2 4))).1 3 ((aset M 2 5 (.int (M.1 2 4))).1 2 4).toNatClampNeg : Int32) = ((Int8.ofInt 59).toInt32 : Int32)), P (.inl none) SHF (aset (aset (aset M 2 5 (.int (M.1 2 4))) 2 3 (.int (Int32.ofInt 3))) 2 5 (.int (((aset (aset M 2 5 (.int (M.1 2 4))) 2 3 (.int (Int32.ofInt 3))).1 2 5) + (Int32.ofInt 1))))) (k10 : ∀ (h1 : ((aset M 2 5 (.int (M.1 2 4))).1 2 4 : Int32) < ((aset M 2 5 (.int (M.1 2 4))).1 2 2 : Int32)), ∀ (h4 : (leV ((aset M 2 5 (.int (M.1 2 4))).1 3 ((aset M 2 5 (.int (M.1 2 4))).1 2 4).toNatClampNeg) : Int32) = 0), ∀ (h6 : ¬ ((diV ((aset M 2 5 (.int (M.1 2 4))).1 3 ((aset M 2 5 (.int (M.1 2 4))).1 2 4).toNatClampNeg) : Int32) = 0)), AW l (pI pg 48) P kc ks 153 [(0, .ref 2)] [] SHF (aset (aset M 2 5 (.int (M.1 2 4))) 2 3 (.int (Int32.ofInt 2)))) (k11 : ∀ (h1 : ((aset M 2 5 (.int (M.1 2 4))).1 2 4 : Int32) < ((aset M 2 5 (.int (M.1 2 4))).1 2 2 : Int32)), ∀ (h4 : ¬ ((leV ((aset M 2 5 (.int (M.1 2 4))).1 3 ((aset M 2 5 (.int (M.1 2 4))).1 2 4).toNatClampNeg) : Int32) = 0)), AW l (pI pg 48) P kc ks 94 [(0, .ref 2)] [] SHF (aset (aset M 2 5 (.int (M.1 2 4))) 2 3 (.int (Int32.ofInt 1)))) (r12 : ∀ (h1 : ¬ (((aset M 2 5 (.int (M.1 2 4))).1 2 4 : Int32) < ((aset M 2 5 (.int (M.1 2 4))).1 2 2 : Int32))), P (.inl none) SHF (aset (aset M 2 5 (.int (M.1 2 4))) 2 3 (.int (Int32.ofInt 0)))) : AW l (pI pg 48) P kc ks 47 [(0, .ref 2)] [] SHF M := by
  refine AW.aload_n (dq rfl) rfl rfl ?_
  show AW l (pI pg 48) P kc ks 48 _ _ SHF _
  refine AW.aload_n (dq rfl) rfl rfl ?_
  show AW l (pI pg 48) P kc ks 49 _ _ SHF _
  refine fw_get (dq rfl) (pg_ok.2.1 48 _ _ _ _ rfl) rfl (v := .int (M.1 2 4)) rfl ?_
  show AW l (pI pg 48) P kc ks 52 _ _ SHF _
  refine fw_putI (dq rfl) (pg_ok.2.1 48 _ _ _ _ rfl) rfl rfl rfl ?_
  show AW l (pI pg 48) P kc ks 55 _ _ SHF _
  refine AW.aload_n (dq rfl) rfl rfl ?_
  show AW l (pI pg 48) P kc ks 56 _ _ SHF _
  refine fw_get (dq rfl) (pg_ok.2.1 48 _ _ _ _ rfl) rfl (v := .int ((aset M 2 5 (.int (M.1 2 4))).1 2 4)) rfl ?_
  show AW l (pI pg 48) P kc ks 59 _ _ SHF _
  refine AW.aload_n (dq rfl) rfl rfl ?_
  show AW l (pI pg 48) P kc ks 60 _ _ SHF _
  refine fw_get (dq rfl) (pg_ok.2.1 48 _ _ _ _ rfl) rfl (v := .int ((aset M 2 5 (.int (M.1 2 4))).1 2 2)) rfl ?_
  show AW l (pI pg 48) P kc ks 63 _ _ SHF _
  refine AW.icmp_lt (dq rfl) (tgt := 74) (by decide) (fun h1 => ?_) (fun h1 => ?_)
  · have _ := h1
    refine AW.aload_n (dq rfl) rfl rfl ?_
    show AW l (pI pg 48) P kc ks 75 _ _ SHF _
    refine fw_get (dq rfl) (pg_ok.2.1 48 _ _ _ _ rfl) rfl (v := .ref 3) (isTA_ok rfl (rgR_ok hJ rfl)) ?_
    show AW l (pI pg 48) P kc ks 78 _ _ SHF _
    refine AW.aload_n (dq rfl) rfl rfl ?_
    show AW l (pI pg 48) P kc ks 79 _ _ SHF _
    refine fw_get (dq rfl) (pg_ok.2.1 48 _ _ _ _ rfl) rfl (v := .int ((aset M 2 5 (.int (M.1 2 4))).1 2 4)) rfl ?_
    show AW l (pI pg 48) P kc ks 82 _ _ SHF _
    refine AW.bald (dq rfl) rfl (o2 h1) ?_
    show AW l (pI pg 48) P kc ks 83 _ _ SHF _
    refine fw_callSI (as := [.int ((aset M 2 5 (.int (M.1 2 4))).1 3 ((aset M 2 5 (.int (M.1 2 4))).1 2 4).toNatClampNeg)]) (dq rfl) (pg_ok.2.2.1 48 _ _ _ _ rfl) (by decide +kernel) rfl rfl (tkLe_c hl0) (fun y3 M3 e3 q3 => ?_)
    obtain ⟨rfl, rfl⟩ := q3
    show AW l (pI pg 48) P kc ks 86 [(0, .ref 2)] [.int (leV ((aset M 2 5 (.int (M.1 2 4))).1 3 ((aset M 2 5 (.int (M.1 2 4))).1 2 4).toNatClampNeg))] SHF _
    refine AW.if_eq (dq rfl) (tgt := 133) (by decide) (fun h4 => ?_) (fun h4 => ?_)
    · have _ := h4
      refine AW.aload_n (dq rfl) rfl rfl ?_
      show AW l (pI pg 48) P kc ks 134 _ _ SHF _
      refine fw_get (dq rfl) (pg_ok.2.1 48 _ _ _ _ rfl) rfl (v := .ref 3) (isTA_ok rfl (rgR_ok hJ rfl)) ?_
      show AW l (pI pg 48) P kc ks 137 _ _ SHF _
      refine AW.aload_n (dq rfl) rfl rfl ?_
      show AW l (pI pg 48) P kc ks 138 _ _ SHF _
      refine fw_get (dq rfl) (pg_ok.2.1 48 _ _ _ _ rfl) rfl (v := .int ((aset M 2 5 (.int (M.1 2 4))).1 2 4)) rfl ?_
      show AW l (pI pg 48) P kc ks 141 _ _ SHF _
      refine AW.bald (dq rfl) rfl (o2 h1) ?_
      show AW l (pI pg 48) P kc ks 142 _ _ SHF _
      refine fw_callSI (as := [.int ((aset M 2 5 (.int (M.1 2 4))).1 3 ((aset M 2 5 (.int (M.1 2 4))).1 2 4).toNatClampNeg)]) (dq rfl) (pg_ok.2.2.1 48 _ _ _ _ rfl) (by decide +kernel) rfl rfl (tkDi_c hl0) (fun y5 M5 e5 q5 => ?_)
      obtain ⟨rfl, rfl⟩ := q5
      show AW l (pI pg 48) P kc ks 145 [(0, .ref 2)] [.int (diV ((aset M 2 5 (.int (M.1 2 4))).1 3 ((aset M 2 5 (.int (M.1 2 4))).1 2 4).toNatClampNeg))] SHF _
      refine AW.if_eq (dq rfl) (tgt := 192) (by decide) (fun h6 => ?_) (fun h6 => ?_)
      · have _ := h6
        refine AW.aload_n (dq rfl) rfl rfl ?_
        show AW l (pI pg 48) P kc ks 193 _ _ SHF _
        refine AW.aload_n (dq rfl) rfl rfl ?_
        show AW l (pI pg 48) P kc ks 194 _ _ SHF _
        refine fw_get (dq rfl) (pg_ok.2.1 48 _ _ _ _ rfl) rfl (v := .ref 3) (isTA_ok rfl (rgR_ok hJ rfl)) ?_
        show AW l (pI pg 48) P kc ks 197 _ _ SHF _
        refine AW.aload_n (dq rfl) rfl rfl ?_
        show AW l (pI pg 48) P kc ks 198 _ _ SHF _
        refine fw_get (dq rfl) (pg_ok.2.1 48 _ _ _ _ rfl) rfl (v := .int ((aset M 2 5 (.int (M.1 2 4))).1 2 4)) rfl ?_
        show AW l (pI pg 48) P kc ks 201 _ _ SHF _
        refine AW.bald (dq rfl) rfl (o2 h1) ?_
        show AW l (pI pg 48) P kc ks 202 _ _ SHF _
        refine AW.bipush (dq rfl) ?_
        show AW l (pI pg 48) P kc ks 204 _ _ SHF _
        refine AW.icmp_ne (dq rfl) (tgt := 211) (by decide) (fun h7 => ?_) (fun h7 => ?_)
        · have _ := h7
          refine AW.iconst (dq rfl) ?_
          show AW l (pI pg 48) P kc ks 212 _ _ SHF _
          refine fw_putI (dq rfl) (pg_ok.2.1 48 _ _ _ _ rfl) rfl rfl rfl ?_
          show AW l (pI pg 48) P kc ks 215 _ _ SHF _
          refine AW.aload_n (dq rfl) rfl rfl ?_
          show AW l (pI pg 48) P kc ks 216 _ _ SHF _
          refine AW.dup (dq rfl) rfl ?_
          show AW l (pI pg 48) P kc ks 217 _ _ SHF _
          refine fw_get (dq rfl) (pg_ok.2.1 48 _ _ _ _ rfl) rfl (v := .int ((aset (aset M 2 5 (.int (M.1 2 4))) 2 3 (.int (Int32.ofInt 4))).1 2 5)) rfl ?_
          show AW l (pI pg 48) P kc ks 220 _ _ SHF _
          refine AW.iconst (dq rfl) ?_
          show AW l (pI pg 48) P kc ks 221 _ _ SHF _
          refine AW.iadd (dq rfl) ?_
          show AW l (pI pg 48) P kc ks 222 _ _ SHF _
          refine fw_putI (dq rfl) (pg_ok.2.1 48 _ _ _ _ rfl) rfl rfl rfl ?_
          show AW l (pI pg 48) P kc ks 225 _ _ SHF _
          refine AW.vret (dq rfl) rfl ?_
          exact r8 h1 h4 h6 h7
        · have _ := h7
          refine AW.iconst (dq rfl) ?_
          show AW l (pI pg 48) P kc ks 208 _ _ SHF _
          refine AW.goto (dq rfl) (tgt := 212) (by decide) ?_
          refine fw_putI (dq rfl) (pg_ok.2.1 48 _ _ _ _ rfl) rfl rfl rfl ?_
          show AW l (pI pg 48) P kc ks 215 _ _ SHF _
          refine AW.aload_n (dq rfl) rfl rfl ?_
          show AW l (pI pg 48) P kc ks 216 _ _ SHF _
          refine AW.dup (dq rfl) rfl ?_
          show AW l (pI pg 48) P kc ks 217 _ _ SHF _
          refine fw_get (dq rfl) (pg_ok.2.1 48 _ _ _ _ rfl) rfl (v := .int ((aset (aset M 2 5 (.int (M.1 2 4))) 2 3 (.int (Int32.ofInt 3))).1 2 5)) rfl ?_
          show AW l (pI pg 48) P kc ks 220 _ _ SHF _
          refine AW.iconst (dq rfl) ?_
          show AW l (pI pg 48) P kc ks 221 _ _ SHF _
          refine AW.iadd (dq rfl) ?_
          show AW l (pI pg 48) P kc ks 222 _ _ SHF _
          refine fw_putI (dq rfl) (pg_ok.2.1 48 _ _ _ _ rfl) rfl rfl rfl ?_
          show AW l (pI pg 48) P kc ks 225 _ _ SHF _
          refine AW.vret (dq rfl) rfl ?_
          exact r9 h1 h4 h6 h7
      · have _ := h6
        refine AW.aload_n (dq rfl) rfl rfl ?_
        show AW l (pI pg 48) P kc ks 149 _ _ SHF _
        refine AW.iconst (dq rfl) ?_
        show AW l (pI pg 48) P kc ks 150 _ _ SHF _
        refine fw_putI (dq rfl) (pg_ok.2.1 48 _ _ _ _ rfl) rfl rfl rfl ?_
        show AW l (pI pg 48) P kc ks 153 _ _ SHF _
        refine AW.drop (lv' := [(0, .ref 2)]) (List.forall_mem_cons.mpr ⟨List.mem_of_getElem? (i := 0) rfl, fun _ h => absurd h List.not_mem_nil⟩) ?_
        exact k10 h1 h4 h6
    · have _ := h4
      refine AW.aload_n (dq rfl) rfl rfl ?_
      show AW l (pI pg 48) P kc ks 90 _ _ SHF _
      refine AW.iconst (dq rfl) ?_
      show AW l (pI pg 48) P kc ks 91 _ _ SHF _
      refine fw_putI (dq rfl) (pg_ok.2.1 48 _ _ _ _ rfl) rfl rfl rfl ?_
      show AW l (pI pg 48) P kc ks 94 _ _ SHF _
      refine AW.drop (lv' := [(0, .ref 2)]) (List.forall_mem_cons.mpr ⟨List.mem_of_getElem? (i := 0) rfl, fun _ h => absurd h List.not_mem_nil⟩) ?_
      exact k11 h1 h4
  · have _ := h1
    refine AW.aload_n (dq rfl) rfl rfl ?_
    show AW l (pI pg 48) P kc ks 67 _ _ SHF _
    refine AW.iconst (dq rfl) ?_
    show AW l (pI pg 48) P kc ks 68 _ _ SHF _
    refine fw_putI (dq rfl) (pg_ok.2.1 48 _ _ _ _ rfl) rfl rfl rfl ?_
    show AW l (pI pg 48) P kc ks 71 _ _ SHF _
    refine AW.goto (dq rfl) (tgt := 225) (by decide) ?_
    refine AW.vret (dq rfl) rfl ?_
    exact r12 h1

theorem adv_94 {l : aL} {P : aP} {kc ks : Nat} {M : aM} (hJ : ∀ e ∈ RT2, M.2.2 e.1 e.2.1 = e.2.2) (hl0 : l.1.stackTraces = false) (r2 : ∀ (h1 : (M.1 2 2 : Int32) ≤ (M.1 2 5 : Int32)), P (.inl none) SHF M) (o3 : ∀ (h1 : ¬ ((M.1 2 2 : Int32) ≤ (M.1 2 5 : Int32))), vp_in (M.1 2 5) 800) (r6 : ∀ (h1 : ¬ ((M.1 2 2 : Int32) ≤ (M.1 2 5 : Int32))), ∀ (h5 : (leV (M.1 3 (M.1 2 5).toNatClampNeg) : Int32) = 0), P (.inl none) SHF M) (k7 : ∀ (h1 : ¬ ((M.1 2 2 : Int32) ≤ (M.1 2 5 : Int32))), ∀ (h5 : ¬ ((leV (M.1 3 (M.1 2 5).toNatClampNeg) : Int32) = 0)), AW l (pI pg 48) P kc ks 94 [(0, .ref 2)] [] SHF (aset M 2 5 (.int ((M.1 2 5) + (Int32.ofInt 1))))) : AW l (pI pg 48) P kc ks 94 [(0, .ref 2)] [] SHF M := by
  refine AW.aload_n (dq rfl) rfl rfl ?_
  show AW l (pI pg 48) P kc ks 95 _ _ SHF _
  refine fw_get (dq rfl) (pg_ok.2.1 48 _ _ _ _ rfl) rfl (v := .int (M.1 2 5)) rfl ?_
  show AW l (pI pg 48) P kc ks 98 _ _ SHF _
  refine AW.aload_n (dq rfl) rfl rfl ?_
  show AW l (pI pg 48) P kc ks 99 _ _ SHF _
  refine fw_get (dq rfl) (pg_ok.2.1 48 _ _ _ _ rfl) rfl (v := .int (M.1 2 2)) rfl ?_
  show AW l (pI pg 48) P kc ks 102 _ _ SHF _
  refine AW.icmp_ge (dq rfl) (tgt := 225) (by decide) (fun h1 => ?_) (fun h1 => ?_)
  · have _ := h1
    refine AW.vret (dq rfl) rfl ?_
    exact r2 h1
  · have _ := h1
    refine AW.aload_n (dq rfl) rfl rfl ?_
    show AW l (pI pg 48) P kc ks 106 _ _ SHF _
    refine fw_get (dq rfl) (pg_ok.2.1 48 _ _ _ _ rfl) rfl (v := .ref 3) (isTA_ok rfl (rgR_ok hJ rfl)) ?_
    show AW l (pI pg 48) P kc ks 109 _ _ SHF _
    refine AW.aload_n (dq rfl) rfl rfl ?_
    show AW l (pI pg 48) P kc ks 110 _ _ SHF _
    refine fw_get (dq rfl) (pg_ok.2.1 48 _ _ _ _ rfl) rfl (v := .int (M.1 2 5)) rfl ?_
    show AW l (pI pg 48) P kc ks 113 _ _ SHF _
    refine AW.bald (dq rfl) rfl (o3 h1) ?_
    show AW l (pI pg 48) P kc ks 114 _ _ SHF _
    refine fw_callSI (as := [.int (M.1 3 (M.1 2 5).toNatClampNeg)]) (dq rfl) (pg_ok.2.2.1 48 _ _ _ _ rfl) (by decide +kernel) rfl rfl (tkLe_c hl0) (fun y4 M4 e4 q4 => ?_)
    obtain ⟨rfl, rfl⟩ := q4
    show AW l (pI pg 48) P kc ks 117 [(0, .ref 2)] [.int (leV (M.1 3 (M.1 2 5).toNatClampNeg))] SHF _
    refine AW.if_eq (dq rfl) (tgt := 225) (by decide) (fun h5 => ?_) (fun h5 => ?_)
    · have _ := h5
      refine AW.vret (dq rfl) rfl ?_
      exact r6 h1 h5
    · have _ := h5
      refine AW.aload_n (dq rfl) rfl rfl ?_
      show AW l (pI pg 48) P kc ks 121 _ _ SHF _
      refine AW.dup (dq rfl) rfl ?_
      show AW l (pI pg 48) P kc ks 122 _ _ SHF _
      refine fw_get (dq rfl) (pg_ok.2.1 48 _ _ _ _ rfl) rfl (v := .int (M.1 2 5)) rfl ?_
      show AW l (pI pg 48) P kc ks 125 _ _ SHF _
      refine AW.iconst (dq rfl) ?_
      show AW l (pI pg 48) P kc ks 126 _ _ SHF _
      refine AW.iadd (dq rfl) ?_
      show AW l (pI pg 48) P kc ks 127 _ _ SHF _
      refine fw_putI (dq rfl) (pg_ok.2.1 48 _ _ _ _ rfl) rfl rfl rfl ?_
      show AW l (pI pg 48) P kc ks 130 _ _ SHF _
      refine AW.goto (dq rfl) (tgt := 94) (by decide) ?_
      refine AW.drop (lv' := [(0, .ref 2)]) (List.forall_mem_cons.mpr ⟨List.mem_of_getElem? (i := 0) rfl, fun _ h => absurd h List.not_mem_nil⟩) ?_
      exact k7 h1 h5

theorem adv_153 {l : aL} {P : aP} {kc ks : Nat} {M : aM} (hJ : ∀ e ∈ RT2, M.2.2 e.1 e.2.1 = e.2.2) (hl0 : l.1.stackTraces = false) (r2 : ∀ (h1 : (M.1 2 2 : Int32) ≤ (M.1 2 5 : Int32)), P (.inl none) SHF M) (o3 : ∀ (h1 : ¬ ((M.1 2 2 : Int32) ≤ (M.1 2 5 : Int32))), vp_in (M.1 2 5) 800) (r6 : ∀ (h1 : ¬ ((M.1 2 2 : Int32) ≤ (M.1 2 5 : Int32))), ∀ (h5 : (diV (M.1 3 (M.1 2 5).toNatClampNeg) : Int32) = 0), P (.inl none) SHF M) (k7 : ∀ (h1 : ¬ ((M.1 2 2 : Int32) ≤ (M.1 2 5 : Int32))), ∀ (h5 : ¬ ((diV (M.1 3 (M.1 2 5).toNatClampNeg) : Int32) = 0)), AW l (pI pg 48) P kc ks 153 [(0, .ref 2)] [] SHF (aset M 2 5 (.int ((M.1 2 5) + (Int32.ofInt 1))))) : AW l (pI pg 48) P kc ks 153 [(0, .ref 2)] [] SHF M := by
  refine AW.aload_n (dq rfl) rfl rfl ?_
  show AW l (pI pg 48) P kc ks 154 _ _ SHF _
  refine fw_get (dq rfl) (pg_ok.2.1 48 _ _ _ _ rfl) rfl (v := .int (M.1 2 5)) rfl ?_
  show AW l (pI pg 48) P kc ks 157 _ _ SHF _
  refine AW.aload_n (dq rfl) rfl rfl ?_
  show AW l (pI pg 48) P kc ks 158 _ _ SHF _
  refine fw_get (dq rfl) (pg_ok.2.1 48 _ _ _ _ rfl) rfl (v := .int (M.1 2 2)) rfl ?_
  show AW l (pI pg 48) P kc ks 161 _ _ SHF _
  refine AW.icmp_ge (dq rfl) (tgt := 225) (by decide) (fun h1 => ?_) (fun h1 => ?_)
  · have _ := h1
    refine AW.vret (dq rfl) rfl ?_
    exact r2 h1
  · have _ := h1
    refine AW.aload_n (dq rfl) rfl rfl ?_
    show AW l (pI pg 48) P kc ks 165 _ _ SHF _
    refine fw_get (dq rfl) (pg_ok.2.1 48 _ _ _ _ rfl) rfl (v := .ref 3) (isTA_ok rfl (rgR_ok hJ rfl)) ?_
    show AW l (pI pg 48) P kc ks 168 _ _ SHF _
    refine AW.aload_n (dq rfl) rfl rfl ?_
    show AW l (pI pg 48) P kc ks 169 _ _ SHF _
    refine fw_get (dq rfl) (pg_ok.2.1 48 _ _ _ _ rfl) rfl (v := .int (M.1 2 5)) rfl ?_
    show AW l (pI pg 48) P kc ks 172 _ _ SHF _
    refine AW.bald (dq rfl) rfl (o3 h1) ?_
    show AW l (pI pg 48) P kc ks 173 _ _ SHF _
    refine fw_callSI (as := [.int (M.1 3 (M.1 2 5).toNatClampNeg)]) (dq rfl) (pg_ok.2.2.1 48 _ _ _ _ rfl) (by decide +kernel) rfl rfl (tkDi_c hl0) (fun y4 M4 e4 q4 => ?_)
    obtain ⟨rfl, rfl⟩ := q4
    show AW l (pI pg 48) P kc ks 176 [(0, .ref 2)] [.int (diV (M.1 3 (M.1 2 5).toNatClampNeg))] SHF _
    refine AW.if_eq (dq rfl) (tgt := 225) (by decide) (fun h5 => ?_) (fun h5 => ?_)
    · have _ := h5
      refine AW.vret (dq rfl) rfl ?_
      exact r6 h1 h5
    · have _ := h5
      refine AW.aload_n (dq rfl) rfl rfl ?_
      show AW l (pI pg 48) P kc ks 180 _ _ SHF _
      refine AW.dup (dq rfl) rfl ?_
      show AW l (pI pg 48) P kc ks 181 _ _ SHF _
      refine fw_get (dq rfl) (pg_ok.2.1 48 _ _ _ _ rfl) rfl (v := .int (M.1 2 5)) rfl ?_
      show AW l (pI pg 48) P kc ks 184 _ _ SHF _
      refine AW.iconst (dq rfl) ?_
      show AW l (pI pg 48) P kc ks 185 _ _ SHF _
      refine AW.iadd (dq rfl) ?_
      show AW l (pI pg 48) P kc ks 186 _ _ SHF _
      refine fw_putI (dq rfl) (pg_ok.2.1 48 _ _ _ _ rfl) rfl rfl rfl ?_
      show AW l (pI pg 48) P kc ks 189 _ _ SHF _
      refine AW.goto (dq rfl) (tgt := 153) (by decide) ?_
      refine AW.drop (lv' := [(0, .ref 2)]) (List.forall_mem_cons.mpr ⟨List.mem_of_getElem? (i := 0) rfl, fun _ h => absurd h List.not_mem_nil⟩) ?_
      exact k7 h1 h5

theorem val_0 {l : aL} {P : aP} {kc ks : Nat} {M : aM} (hJ : ∀ e ∈ RT2, M.2.2 e.1 e.2.1 = e.2.2)  (k1 : AW l (pI pg 69) P kc ks 7 [(2, .int (M.1 2 4)), (1, .int (Int32.ofInt 0)), (0, .ref 2)] [] SHF M) : AW l (pI pg 69) P kc ks 0 [(0, .ref 2)] [] SHF M := by
  refine AW.iconst (dq rfl) ?_
  show AW l (pI pg 69) P kc ks 1 _ _ SHF _
  refine AW.istore_n (dq rfl) (by decide +kernel) ?_
  show AW l (pI pg 69) P kc ks 2 [(1, .int (Int32.ofInt 0)), (0, .ref 2)] [] SHF _
  refine AW.aload_n (dq rfl) rfl rfl ?_
  show AW l (pI pg 69) P kc ks 3 _ _ SHF _
  refine fw_get (dq rfl) (pg_ok.2.1 69 _ _ _ _ rfl) rfl (v := .int (M.1 2 4)) rfl ?_
  show AW l (pI pg 69) P kc ks 6 _ _ SHF _
  refine AW.istore_n (dq rfl) (by decide +kernel) ?_
  show AW l (pI pg 69) P kc ks 7 [(2, .int (M.1 2 4)), (1, .int (Int32.ofInt 0)), (0, .ref 2)] [] SHF _
  refine AW.drop (lv' := [(2, .int (M.1 2 4)), (1, .int (Int32.ofInt 0)), (0, .ref 2)]) (List.forall_mem_cons.mpr ⟨List.mem_of_getElem? (i := 0) rfl, List.forall_mem_cons.mpr ⟨List.mem_of_getElem? (i := 1) rfl, List.forall_mem_cons.mpr ⟨List.mem_of_getElem? (i := 2) rfl, fun _ h => absurd h List.not_mem_nil⟩⟩⟩) ?_
  exact k1

theorem val_7 {l : aL} {P : aP} {kc ks : Nat} {i : Nat} {v : Int32} {M : aM} (hJ : ∀ e ∈ RT2, M.2.2 e.1 e.2.1 = e.2.2)  (r2 : ∀ (h1 : (M.1 2 5 : Int32) ≤ (nI i : Int32)), P (.inl (some (.int (v)))) SHF M) (o3 : ∀ (h1 : ¬ ((M.1 2 5 : Int32) ≤ (nI i : Int32))), vp_in (nI i) 800) (k4 : ∀ (h1 : ¬ ((M.1 2 5 : Int32) ≤ (nI i : Int32))), AW l (pI pg 69) P kc ks 7 [(2, .int ((nI i) + Int32.ofInt 1)), (1, .int (((v) * ((Int8.ofInt 10).toInt32)) + ((M.1 3 (nI i).toNatClampNeg) - ((Int8.ofInt 48).toInt32)))), (0, .ref 2)] [] SHF M) : AW l (pI pg 69) P kc ks 7 [(2, .int (nI i)), (1, .int (v)), (0, .ref 2)] [] SHF M := by
  refine AW.iload_n (dq rfl) rfl ?_
  show AW l (pI pg 69) P kc ks 8 _ _ SHF _
  refine AW.aload_n (dq rfl) rfl rfl ?_
  show AW l (pI pg 69) P kc ks 9 _ _ SHF _
  refine fw_get (dq rfl) (pg_ok.2.1 69 _ _ _ _ rfl) rfl (v := .int (M.1 2 5)) rfl ?_
  show AW l (pI pg 69) P kc ks 12 _ _ SHF _
  refine AW.icmp_ge (dq rfl) (tgt := 36) (by decide) (fun h1 => ?_) (fun h1 => ?_)
  · have _ := h1
    refine AW.iload_n (dq rfl) rfl ?_
    show AW l (pI pg 69) P kc ks 37 _ _ SHF _
    refine AW.iret (dq rfl) rfl ?_
    exact r2 h1
  · have _ := h1
    refine AW.iload_n (dq rfl) rfl ?_
    show AW l (pI pg 69) P kc ks 16 _ _ SHF _
    refine AW.bipush (dq rfl) ?_
    show AW l (pI pg 69) P kc ks 18 _ _ SHF _
    refine AW.imul (dq rfl) ?_
    show AW l (pI pg 69) P kc ks 19 _ _ SHF _
    refine AW.aload_n (dq rfl) rfl rfl ?_
    show AW l (pI pg 69) P kc ks 20 _ _ SHF _
    refine fw_get (dq rfl) (pg_ok.2.1 69 _ _ _ _ rfl) rfl (v := .ref 3) (isTA_ok rfl (rgR_ok hJ rfl)) ?_
    show AW l (pI pg 69) P kc ks 23 _ _ SHF _
    refine AW.iload_n (dq rfl) rfl ?_
    show AW l (pI pg 69) P kc ks 24 _ _ SHF _
    refine AW.bald (dq rfl) rfl (o3 h1) ?_
    show AW l (pI pg 69) P kc ks 25 _ _ SHF _
    refine AW.bipush (dq rfl) ?_
    show AW l (pI pg 69) P kc ks 27 _ _ SHF _
    refine AW.isub (dq rfl) ?_
    show AW l (pI pg 69) P kc ks 28 _ _ SHF _
    refine AW.iadd (dq rfl) ?_
    show AW l (pI pg 69) P kc ks 29 _ _ SHF _
    refine AW.istore_n (dq rfl) (by decide +kernel) ?_
    show AW l (pI pg 69) P kc ks 30 [(1, .int (((v) * ((Int8.ofInt 10).toInt32)) + ((M.1 3 (nI i).toNatClampNeg) - ((Int8.ofInt 48).toInt32)))), (2, .int (nI i)), (0, .ref 2)] [] SHF _
    refine AW.iinc (dq rfl) rfl (by decide +kernel) ?_
    show AW l (pI pg 69) P kc ks 33 [(2, .int ((nI i) + Int32.ofInt 1)), (1, .int (((v) * ((Int8.ofInt 10).toInt32)) + ((M.1 3 (nI i).toNatClampNeg) - ((Int8.ofInt 48).toInt32)))), (0, .ref 2)] [] SHF _
    refine AW.goto (dq rfl) (tgt := 7) (by decide) ?_
    refine AW.drop (lv' := [(2, .int ((nI i) + Int32.ofInt 1)), (1, .int (((v) * ((Int8.ofInt 10).toInt32)) + ((M.1 3 (nI i).toNatClampNeg) - ((Int8.ofInt 48).toInt32)))), (0, .ref 2)]) (List.forall_mem_cons.mpr ⟨List.mem_of_getElem? (i := 0) rfl, List.forall_mem_cons.mpr ⟨List.mem_of_getElem? (i := 1) rfl, List.forall_mem_cons.mpr ⟨List.mem_of_getElem? (i := 2) rfl, fun _ h => absurd h List.not_mem_nil⟩⟩⟩) ?_
    exact k4 h1

theorem dig_0 {l : aL} {P : aP} {kc ks : Nat} {M : aM} (hJ : ∀ e ∈ RT2, M.2.2 e.1 e.2.1 = e.2.2)  (r2 : ∀ (h1 : ¬ (M.1 2 3 : Int32) = (Int32.ofInt 2 : Int32)), P (.inl (some (.int (Int32.ofInt 0)))) SHF M) (r3 : ∀ (h1 : (M.1 2 3 : Int32) = (Int32.ofInt 2 : Int32)), P (.inl (some (.int ((M.1 2 5) - (M.1 2 4))))) SHF M) : AW l (pI pg 68) P kc ks 0 [(0, .ref 2)] [] SHF M := by
  refine AW.aload_n (dq rfl) rfl rfl ?_
  show AW l (pI pg 68) P kc ks 1 _ _ SHF _
  refine fw_get (dq rfl) (pg_ok.2.1 68 _ _ _ _ rfl) rfl (v := .int (M.1 2 3)) rfl ?_
  show AW l (pI pg 68) P kc ks 4 _ _ SHF _
  refine AW.iconst (dq rfl) ?_
  show AW l (pI pg 68) P kc ks 5 _ _ SHF _
  refine AW.icmp_ne (dq rfl) (tgt := 20) (by decide) (fun h1 => ?_) (fun h1 => ?_)
  · have _ := h1
    refine AW.iconst (dq rfl) ?_
    show AW l (pI pg 68) P kc ks 21 _ _ SHF _
    refine AW.iret (dq rfl) rfl ?_
    exact r2 h1
  · have _ := h1
    refine AW.aload_n (dq rfl) rfl rfl ?_
    show AW l (pI pg 68) P kc ks 9 _ _ SHF _
    refine fw_get (dq rfl) (pg_ok.2.1 68 _ _ _ _ rfl) rfl (v := .int (M.1 2 5)) rfl ?_
    show AW l (pI pg 68) P kc ks 12 _ _ SHF _
    refine AW.aload_n (dq rfl) rfl rfl ?_
    show AW l (pI pg 68) P kc ks 13 _ _ SHF _
    refine fw_get (dq rfl) (pg_ok.2.1 68 _ _ _ _ rfl) rfl (v := .int (M.1 2 4)) rfl ?_
    show AW l (pI pg 68) P kc ks 16 _ _ SHF _
    refine AW.isub (dq rfl) ?_
    show AW l (pI pg 68) P kc ks 17 _ _ SHF _
    refine AW.goto (dq rfl) (tgt := 21) (by decide) ?_
    refine AW.iret (dq rfl) rfl ?_
    exact r3 h1

theorem stp_0 {l : aL} {P : aP} {kc ks : Nat} {M : aM} (hJ : ∀ e ∈ RM, M.2.2 e.1 e.2.1 = e.2.2) (hl0 : l.1.stackTraces = false) (k2 : ∀ (h1 : (M.1 58 16 : Int32) ≤ (M.1 58 17 : Int32)), AW l (pI pg 176) P kc ks 50 [(0, .ref 58)] [] SHF M) (o4 : ∀ (h1 : ¬ ((M.1 58 16 : Int32) ≤ (M.1 58 17 : Int32))), ¬ M.1 58 16 ≤ M.1 58 17 → vp_in (M.1 58 17) 800) (k6 : ∀ (h1 : ¬ ((M.1 58 16 : Int32) ≤ (M.1 58 17 : Int32))), ∀ (h5 : (byV M (M.1 58 17) : Int32) = ((Int8.ofInt 32).toInt32 : Int32)), AW l (pI pg 176) P kc ks 0 [(0, .ref 58)] [] SHF (aset M 58 17 (.int ((M.1 58 17) + (Int32.ofInt 1))))) (k9 : ∀ (h1 : ¬ ((M.1 58 16 : Int32) ≤ (M.1 58 17 : Int32))), ∀ (h5 : ¬ ((byV M (M.1 58 17) : Int32) = ((Int8.ofInt 32).toInt32 : Int32))), ∀ (h8 : ¬ (byV M (M.1 58 17) : Int32) = ((Int8.ofInt 10).toInt32 : Int32)), AW l (pI pg 176) P kc ks 50 [(0, .ref 58)] [] SHF M) (k10 : ∀ (h1 : ¬ ((M.1 58 16 : Int32) ≤ (M.1 58 17 : Int32))), ∀ (h5 : ¬ ((byV M (M.1 58 17) : Int32) = ((Int8.ofInt 32).toInt32 : Int32))), ∀ (h8 : (byV M (M.1 58 17) : Int32) = ((Int8.ofInt 10).toInt32 : Int32)), AW l (pI pg 176) P kc ks 0 [(0, .ref 58)] [] SHF (aset M 58 17 (.int ((M.1 58 17) + (Int32.ofInt 1))))) : AW l (pI pg 176) P kc ks 0 [(0, .ref 58)] [] SHF M := by
  refine AW.aload_n (dq rfl) rfl rfl ?_
  show AW l (pI pg 176) P kc ks 1 _ _ SHF _
  refine fw_get (dq rfl) (pg_ok.2.1 176 _ _ _ _ rfl) rfl (v := .int (M.1 58 17)) rfl ?_
  show AW l (pI pg 176) P kc ks 4 _ _ SHF _
  refine AW.aload_n (dq rfl) rfl rfl ?_
  show AW l (pI pg 176) P kc ks 5 _ _ SHF _
  refine fw_get (dq rfl) (pg_ok.2.1 176 _ _ _ _ rfl) rfl (v := .int (M.1 58 16)) rfl ?_
  show AW l (pI pg 176) P kc ks 8 _ _ SHF _
  refine AW.icmp_ge (dq rfl) (tgt := 50) (by decide) (fun h1 => ?_) (fun h1 => ?_)
  · have _ := h1
    refine AW.drop (lv' := [(0, .ref 58)]) (List.forall_mem_cons.mpr ⟨List.mem_of_getElem? (i := 0) rfl, fun _ h => absurd h List.not_mem_nil⟩) ?_
    exact k2 h1
  · have _ := h1
    refine AW.aload_n (dq rfl) rfl rfl ?_
    show AW l (pI pg 176) P kc ks 12 _ _ SHF _
    refine AW.aload_n (dq rfl) rfl rfl ?_
    show AW l (pI pg 176) P kc ks 13 _ _ SHF _
    refine fw_get (dq rfl) (pg_ok.2.1 176 _ _ _ _ rfl) rfl (v := .int (M.1 58 17)) rfl ?_
    show AW l (pI pg 176) P kc ks 16 _ _ SHF _
    refine fw_callVI (as := [.int (M.1 58 17)]) (dq rfl) (pg_ok.2.2.1 176 _ _ _ _ rfl) rfl (by decide +kernel) rfl rfl (byt_c hl0 (fun e he => hJ e he) (o4 h1)) (fun y3 M3 e3 q3 => ?_)
    obtain ⟨rfl, rfl⟩ := q3
    show AW l (pI pg 176) P kc ks 19 [(0, .ref 58)] [.int (byV M (M.1 58 17))] SHF _
    refine AW.bipush (dq rfl) ?_
    show AW l (pI pg 176) P kc ks 21 _ _ SHF _
    refine AW.icmp_eq (dq rfl) (tgt := 37) (by decide) (fun h5 => ?_) (fun h5 => ?_)
    · have _ := h5
      refine AW.aload_n (dq rfl) rfl rfl ?_
      show AW l (pI pg 176) P kc ks 38 _ _ SHF _
      refine AW.dup (dq rfl) rfl ?_
      show AW l (pI pg 176) P kc ks 39 _ _ SHF _
      refine fw_get (dq rfl) (pg_ok.2.1 176 _ _ _ _ rfl) rfl (v := .int (M.1 58 17)) rfl ?_
      show AW l (pI pg 176) P kc ks 42 _ _ SHF _
      refine AW.iconst (dq rfl) ?_
      show AW l (pI pg 176) P kc ks 43 _ _ SHF _
      refine AW.iadd (dq rfl) ?_
      show AW l (pI pg 176) P kc ks 44 _ _ SHF _
      refine fw_putI (dq rfl) (pg_ok.2.1 176 _ _ _ _ rfl) rfl rfl rfl ?_
      show AW l (pI pg 176) P kc ks 47 _ _ SHF _
      refine AW.goto (dq rfl) (tgt := 0) (by decide) ?_
      refine AW.drop (lv' := [(0, .ref 58)]) (List.forall_mem_cons.mpr ⟨List.mem_of_getElem? (i := 0) rfl, fun _ h => absurd h List.not_mem_nil⟩) ?_
      exact k6 h1 h5
    · have _ := h5
      refine AW.aload_n (dq rfl) rfl rfl ?_
      show AW l (pI pg 176) P kc ks 25 _ _ SHF _
      refine AW.aload_n (dq rfl) rfl rfl ?_
      show AW l (pI pg 176) P kc ks 26 _ _ SHF _
      refine fw_get (dq rfl) (pg_ok.2.1 176 _ _ _ _ rfl) rfl (v := .int (M.1 58 17)) rfl ?_
      show AW l (pI pg 176) P kc ks 29 _ _ SHF _
      refine fw_callVI (as := [.int (M.1 58 17)]) (dq rfl) (pg_ok.2.2.1 176 _ _ _ _ rfl) rfl (by decide +kernel) rfl rfl (byt_c hl0 (fun e he => hJ e he) (o4 h1)) (fun y7 M7 e7 q7 => ?_)
      obtain ⟨rfl, rfl⟩ := q7
      show AW l (pI pg 176) P kc ks 32 [(0, .ref 58)] [.int (byV M (M.1 58 17))] SHF _
      refine AW.bipush (dq rfl) ?_
      show AW l (pI pg 176) P kc ks 34 _ _ SHF _
      refine AW.icmp_ne (dq rfl) (tgt := 50) (by decide) (fun h8 => ?_) (fun h8 => ?_)
      · have _ := h8
        refine AW.drop (lv' := [(0, .ref 58)]) (List.forall_mem_cons.mpr ⟨List.mem_of_getElem? (i := 0) rfl, fun _ h => absurd h List.not_mem_nil⟩) ?_
        exact k9 h1 h5 h8
      · have _ := h8
        refine AW.aload_n (dq rfl) rfl rfl ?_
        show AW l (pI pg 176) P kc ks 38 _ _ SHF _
        refine AW.dup (dq rfl) rfl ?_
        show AW l (pI pg 176) P kc ks 39 _ _ SHF _
        refine fw_get (dq rfl) (pg_ok.2.1 176 _ _ _ _ rfl) rfl (v := .int (M.1 58 17)) rfl ?_
        show AW l (pI pg 176) P kc ks 42 _ _ SHF _
        refine AW.iconst (dq rfl) ?_
        show AW l (pI pg 176) P kc ks 43 _ _ SHF _
        refine AW.iadd (dq rfl) ?_
        show AW l (pI pg 176) P kc ks 44 _ _ SHF _
        refine fw_putI (dq rfl) (pg_ok.2.1 176 _ _ _ _ rfl) rfl rfl rfl ?_
        show AW l (pI pg 176) P kc ks 47 _ _ SHF _
        refine AW.goto (dq rfl) (tgt := 0) (by decide) ?_
        refine AW.drop (lv' := [(0, .ref 58)]) (List.forall_mem_cons.mpr ⟨List.mem_of_getElem? (i := 0) rfl, fun _ h => absurd h List.not_mem_nil⟩) ?_
        exact k10 h1 h5 h8

theorem stp_50 {l : aL} {P : aP} {kc ks : Nat} {M : aM} (hJ : ∀ e ∈ RM, M.2.2 e.1 e.2.1 = e.2.2) (hl0 : l.1.stackTraces = false) (o2 : ¬ (aset (aset (aset M 58 19 (.int (M.1 58 17))) 58 22 (.long (Int64.ofNat (0 : Fin 2)))) 58 21 (.int (Int32.ofInt 0))).1 58 16 ≤ (aset (aset (aset M 58 19 (.int (M.1 58 17))) 58 22 (.long (Int64.ofNat (0 : Fin 2)))) 58 21 (.int (Int32.ofInt 0))).1 58 17 → vp_in ((aset (aset (aset M 58 19 (.int (M.1 58 17))) 58 22 (.long (Int64.ofNat (0 : Fin 2)))) 58 21 (.int (Int32.ofInt 0))).1 58 17) 800) (k3 : AW l (pI pg 176) P kc ks 77 [(0, .ref 58), (1, .int (byV (aset (aset (aset M 58 19 (.int (M.1 58 17))) 58 22 (.long (Int64.ofNat (0 : Fin 2)))) 58 21 (.int (Int32.ofInt 0))) ((aset (aset (aset M 58 19 (.int (M.1 58 17))) 58 22 (.long (Int64.ofNat (0 : Fin 2)))) 58 21 (.int (Int32.ofInt 0))).1 58 17)))] [] SHF (aset (aset (aset M 58 19 (.int (M.1 58 17))) 58 22 (.long (Int64.ofNat (0 : Fin 2)))) 58 21 (.int (Int32.ofInt 0)))) : AW l (pI pg 176) P kc ks 50 [(0, .ref 58)] [] SHF M := by
  refine AW.aload_n (dq rfl) rfl rfl ?_
  show AW l (pI pg 176) P kc ks 51 _ _ SHF _
  refine AW.aload_n (dq rfl) rfl rfl ?_
  show AW l (pI pg 176) P kc ks 52 _ _ SHF _
  refine fw_get (dq rfl) (pg_ok.2.1 176 _ _ _ _ rfl) rfl (v := .int (M.1 58 17)) rfl ?_
  show AW l (pI pg 176) P kc ks 55 _ _ SHF _
  refine fw_putI (dq rfl) (pg_ok.2.1 176 _ _ _ _ rfl) rfl rfl rfl ?_
  show AW l (pI pg 176) P kc ks 58 _ _ SHF _
  refine AW.aload_n (dq rfl) rfl rfl ?_
  show AW l (pI pg 176) P kc ks 59 _ _ SHF _
  refine AW.lconst (dq rfl) ?_
  show AW l (pI pg 176) P kc ks 60 _ _ SHF _
  refine fw_putJ (dq rfl) (pg_ok.2.1 176 _ _ _ _ rfl) rfl rfl rfl ?_
  show AW l (pI pg 176) P kc ks 63 _ _ SHF _
  refine AW.aload_n (dq rfl) rfl rfl ?_
  show AW l (pI pg 176) P kc ks 64 _ _ SHF _
  refine AW.iconst (dq rfl) ?_
  show AW l (pI pg 176) P kc ks 65 _ _ SHF _
  refine fw_putI (dq rfl) (pg_ok.2.1 176 _ _ _ _ rfl) rfl rfl rfl ?_
  show AW l (pI pg 176) P kc ks 68 _ _ SHF _
  refine AW.aload_n (dq rfl) rfl rfl ?_
  show AW l (pI pg 176) P kc ks 69 _ _ SHF _
  refine AW.aload_n (dq rfl) rfl rfl ?_
  show AW l (pI pg 176) P kc ks 70 _ _ SHF _
  refine fw_get (dq rfl) (pg_ok.2.1 176 _ _ _ _ rfl) rfl (v := .int ((aset (aset (aset M 58 19 (.int (M.1 58 17))) 58 22 (.long (Int64.ofNat (0 : Fin 2)))) 58 21 (.int (Int32.ofInt 0))).1 58 17)) rfl ?_
  show AW l (pI pg 176) P kc ks 73 _ _ SHF _
  refine fw_callVI (as := [.int ((aset (aset (aset M 58 19 (.int (M.1 58 17))) 58 22 (.long (Int64.ofNat (0 : Fin 2)))) 58 21 (.int (Int32.ofInt 0))).1 58 17)]) (dq rfl) (pg_ok.2.2.1 176 _ _ _ _ rfl) rfl (by decide +kernel) rfl rfl (byt_c hl0 (fun e he => hJ e he) (o2)) (fun y1 M1 e1 q1 => ?_)
  obtain ⟨rfl, rfl⟩ := q1
  show AW l (pI pg 176) P kc ks 76 [(0, .ref 58)] [.int (byV (aset (aset (aset M 58 19 (.int (M.1 58 17))) 58 22 (.long (Int64.ofNat (0 : Fin 2)))) 58 21 (.int (Int32.ofInt 0))) ((aset (aset (aset M 58 19 (.int (M.1 58 17))) 58 22 (.long (Int64.ofNat (0 : Fin 2)))) 58 21 (.int (Int32.ofInt 0))).1 58 17))] SHF _
  refine AW.istore_n (dq rfl) (by decide +kernel) ?_
  show AW l (pI pg 176) P kc ks 77 [(1, .int (byV (aset (aset (aset M 58 19 (.int (M.1 58 17))) 58 22 (.long (Int64.ofNat (0 : Fin 2)))) 58 21 (.int (Int32.ofInt 0))) ((aset (aset (aset M 58 19 (.int (M.1 58 17))) 58 22 (.long (Int64.ofNat (0 : Fin 2)))) 58 21 (.int (Int32.ofInt 0))).1 58 17))), (0, .ref 58)] [] SHF _
  refine AW.drop (lv' := [(0, .ref 58), (1, .int (byV (aset (aset (aset M 58 19 (.int (M.1 58 17))) 58 22 (.long (Int64.ofNat (0 : Fin 2)))) 58 21 (.int (Int32.ofInt 0))) ((aset (aset (aset M 58 19 (.int (M.1 58 17))) 58 22 (.long (Int64.ofNat (0 : Fin 2)))) 58 21 (.int (Int32.ofInt 0))).1 58 17)))]) (List.forall_mem_cons.mpr ⟨List.mem_of_getElem? (i := 1) rfl, List.forall_mem_cons.mpr ⟨List.mem_of_getElem? (i := 0) rfl, fun _ h => absurd h List.not_mem_nil⟩⟩) ?_
  exact k3

theorem stp_77 {l : aL} {P : aP} {kc ks : Nat} {c : Int32} {M : aM} (hJ : ∀ e ∈ RM, M.2.2 e.1 e.2.1 = e.2.2) (hl0 : l.1.stackTraces = false) (k7 : ∀ (h1 : (M.1 58 17 : Int32) < (M.1 58 16 : Int32)), ∀ (h3 : (leV (c) : Int32) = 0), ∀ (h5 : (diV (c) : Int32) = 0), ∀ (h6 : ¬ (c : Int32) = ((Int8.ofInt 59).toInt32 : Int32)), AW l (pI pg 176) P kc ks 278 [(0, .ref 58)] [] SHF (aset (aset M 58 17 (.int ((M.1 58 17) + (Int32.ofInt 1)))) 58 18 (.int (Int32.ofInt 4)))) (k8 : ∀ (h1 : (M.1 58 17 : Int32) < (M.1 58 16 : Int32)), ∀ (h3 : (leV (c) : Int32) = 0), ∀ (h5 : (diV (c) : Int32) = 0), ∀ (h6 : (c : Int32) = ((Int8.ofInt 59).toInt32 : Int32)), AW l (pI pg 176) P kc ks 278 [(0, .ref 58)] [] SHF (aset (aset M 58 17 (.int ((M.1 58 17) + (Int32.ofInt 1)))) 58 18 (.int (Int32.ofInt 3)))) (k9 : ∀ (h1 : (M.1 58 17 : Int32) < (M.1 58 16 : Int32)), ∀ (h3 : (leV (c) : Int32) = 0), ∀ (h5 : ¬ ((diV (c) : Int32) = 0)), AW l (pI pg 176) P kc ks 182 [(0, .ref 58)] [] SHF M) (k10 : ∀ (h1 : (M.1 58 17 : Int32) < (M.1 58 16 : Int32)), ∀ (h3 : ¬ ((leV (c) : Int32) = 0)), AW l (pI pg 176) P kc ks 103 [(0, .ref 58)] [] SHF M) (k11 : ∀ (h1 : ¬ ((M.1 58 17 : Int32) < (M.1 58 16 : Int32))), AW l (pI pg 176) P kc ks 278 [(0, .ref 58)] [] SHF (aset M 58 18 (.int (Int32.ofInt 0)))) : AW l (pI pg 176) P kc ks 77 [(0, .ref 58), (1, .int (c))] [] SHF M := by
  refine AW.aload_n (dq rfl) rfl rfl ?_
  show AW l (pI pg 176) P kc ks 78 _ _ SHF _
  refine fw_get (dq rfl) (pg_ok.2.1 176 _ _ _ _ rfl) rfl (v := .int (M.1 58 17)) rfl ?_
  show AW l (pI pg 176) P kc ks 81 _ _ SHF _
  refine AW.aload_n (dq rfl) rfl rfl ?_
  show AW l (pI pg 176) P kc ks 82 _ _ SHF _
  refine fw_get (dq rfl) (pg_ok.2.1 176 _ _ _ _ rfl) rfl (v := .int (M.1 58 16)) rfl ?_
  show AW l (pI pg 176) P kc ks 85 _ _ SHF _
  refine AW.icmp_lt (dq rfl) (tgt := 96) (by decide) (fun h1 => ?_) (fun h1 => ?_)
  · have _ := h1
    refine AW.iload_n (dq rfl) rfl ?_
    show AW l (pI pg 176) P kc ks 97 _ _ SHF _
    refine fw_callSI (as := [.int (c)]) (dq rfl) (pg_ok.2.2.1 176 _ _ _ _ rfl) (by decide +kernel) rfl rfl (mdLe_c hl0) (fun y2 M2 e2 q2 => ?_)
    obtain ⟨rfl, rfl⟩ := q2
    show AW l (pI pg 176) P kc ks 100 [(0, .ref 58), (1, .int (c))] [.int (leV (c))] SHF _
    refine AW.if_eq (dq rfl) (tgt := 175) (by decide) (fun h3 => ?_) (fun h3 => ?_)
    · have _ := h3
      refine AW.iload_n (dq rfl) rfl ?_
      show AW l (pI pg 176) P kc ks 176 _ _ SHF _
      refine fw_callSI (as := [.int (c)]) (dq rfl) (pg_ok.2.2.1 176 _ _ _ _ rfl) (by decide +kernel) rfl rfl (mdDi_c hl0) (fun y4 M4 e4 q4 => ?_)
      obtain ⟨rfl, rfl⟩ := q4
      show AW l (pI pg 176) P kc ks 179 [(0, .ref 58), (1, .int (c))] [.int (diV (c))] SHF _
      refine AW.if_eq (dq rfl) (tgt := 253) (by decide) (fun h5 => ?_) (fun h5 => ?_)
      · have _ := h5
        refine AW.aload_n (dq rfl) rfl rfl ?_
        show AW l (pI pg 176) P kc ks 254 _ _ SHF _
        refine AW.dup (dq rfl) rfl ?_
        show AW l (pI pg 176) P kc ks 255 _ _ SHF _
        refine fw_get (dq rfl) (pg_ok.2.1 176 _ _ _ _ rfl) rfl (v := .int (M.1 58 17)) rfl ?_
        show AW l (pI pg 176) P kc ks 258 _ _ SHF _
        refine AW.iconst (dq rfl) ?_
        show AW l (pI pg 176) P kc ks 259 _ _ SHF _
        refine AW.iadd (dq rfl) ?_
        show AW l (pI pg 176) P kc ks 260 _ _ SHF _
        refine fw_putI (dq rfl) (pg_ok.2.1 176 _ _ _ _ rfl) rfl rfl rfl ?_
        show AW l (pI pg 176) P kc ks 263 _ _ SHF _
        refine AW.aload_n (dq rfl) rfl rfl ?_
        show AW l (pI pg 176) P kc ks 264 _ _ SHF _
        refine AW.iload_n (dq rfl) rfl ?_
        show AW l (pI pg 176) P kc ks 265 _ _ SHF _
        refine AW.bipush (dq rfl) ?_
        show AW l (pI pg 176) P kc ks 267 _ _ SHF _
        refine AW.icmp_ne (dq rfl) (tgt := 274) (by decide) (fun h6 => ?_) (fun h6 => ?_)
        · have _ := h6
          refine AW.iconst (dq rfl) ?_
          show AW l (pI pg 176) P kc ks 275 _ _ SHF _
          refine fw_putI (dq rfl) (pg_ok.2.1 176 _ _ _ _ rfl) rfl rfl rfl ?_
          show AW l (pI pg 176) P kc ks 278 _ _ SHF _
          refine AW.drop (lv' := [(0, .ref 58)]) (List.forall_mem_cons.mpr ⟨List.mem_of_getElem? (i := 0) rfl, fun _ h => absurd h List.not_mem_nil⟩) ?_
          exact k7 h1 h3 h5 h6
        · have _ := h6
          refine AW.iconst (dq rfl) ?_
          show AW l (pI pg 176) P kc ks 271 _ _ SHF _
          refine AW.goto (dq rfl) (tgt := 275) (by decide) ?_
          refine fw_putI (dq rfl) (pg_ok.2.1 176 _ _ _ _ rfl) rfl rfl rfl ?_
          show AW l (pI pg 176) P kc ks 278 _ _ SHF _
          refine AW.drop (lv' := [(0, .ref 58)]) (List.forall_mem_cons.mpr ⟨List.mem_of_getElem? (i := 0) rfl, fun _ h => absurd h List.not_mem_nil⟩) ?_
          exact k8 h1 h3 h5 h6
      · have _ := h5
        refine AW.drop (lv' := [(0, .ref 58)]) (List.forall_mem_cons.mpr ⟨List.mem_of_getElem? (i := 0) rfl, fun _ h => absurd h List.not_mem_nil⟩) ?_
        exact k9 h1 h3 h5
    · have _ := h3
      refine AW.drop (lv' := [(0, .ref 58)]) (List.forall_mem_cons.mpr ⟨List.mem_of_getElem? (i := 0) rfl, fun _ h => absurd h List.not_mem_nil⟩) ?_
      exact k10 h1 h3
  · have _ := h1
    refine AW.aload_n (dq rfl) rfl rfl ?_
    show AW l (pI pg 176) P kc ks 89 _ _ SHF _
    refine AW.iconst (dq rfl) ?_
    show AW l (pI pg 176) P kc ks 90 _ _ SHF _
    refine fw_putI (dq rfl) (pg_ok.2.1 176 _ _ _ _ rfl) rfl rfl rfl ?_
    show AW l (pI pg 176) P kc ks 93 _ _ SHF _
    refine AW.goto (dq rfl) (tgt := 278) (by decide) ?_
    refine AW.drop (lv' := [(0, .ref 58)]) (List.forall_mem_cons.mpr ⟨List.mem_of_getElem? (i := 0) rfl, fun _ h => absurd h List.not_mem_nil⟩) ?_
    exact k11 h1

theorem stp_103 {l : aL} {P : aP} {kc ks : Nat} {M : aM} (hJ : ∀ e ∈ RM, M.2.2 e.1 e.2.1 = e.2.2) (hl0 : l.1.stackTraces = false) (o2 : ¬ M.1 58 16 ≤ M.1 58 17 → vp_in (M.1 58 17) 800) (k5 : ∀ (h4 : (leV (byV M (M.1 58 17)) : Int32) = 0), AW l (pI pg 176) P kc ks 278 [(0, .ref 58)] [] SHF (aset M 58 18 (.int (Int32.ofInt 1)))) (k7 : ∀ (h4 : ¬ ((leV (byV M (M.1 58 17)) : Int32) = 0)), ∀ (h6 : ((Int8.ofInt 6).toInt32 : Int32) ≤ ((M.1 58 17) - (M.1 58 19) : Int32)), AW l (pI pg 176) P kc ks 154 [(0, .ref 58)] [] SHF M) (k9 : ∀ (h4 : ¬ ((leV (byV M (M.1 58 17)) : Int32) = 0)), ∀ (h6 : ¬ (((Int8.ofInt 6).toInt32 : Int32) ≤ ((M.1 58 17) - (M.1 58 19) : Int32))), AW l (pI pg 176) P kc ks 154 [(0, .ref 58)] [] SHF (aset M 58 22 (.long (((M.2.1 58 22) <<< ((Int32.ofInt 5).toInt64 &&& 63)) ||| (((byV M (M.1 58 17)) - ((Int8.ofInt 96).toInt32)).toInt64))))) : AW l (pI pg 176) P kc ks 103 [(0, .ref 58)] [] SHF M := by
  refine AW.aload_n (dq rfl) rfl rfl ?_
  show AW l (pI pg 176) P kc ks 104 _ _ SHF _
  refine AW.aload_n (dq rfl) rfl rfl ?_
  show AW l (pI pg 176) P kc ks 105 _ _ SHF _
  refine fw_get (dq rfl) (pg_ok.2.1 176 _ _ _ _ rfl) rfl (v := .int (M.1 58 17)) rfl ?_
  show AW l (pI pg 176) P kc ks 108 _ _ SHF _
  refine fw_callVI (as := [.int (M.1 58 17)]) (dq rfl) (pg_ok.2.2.1 176 _ _ _ _ rfl) rfl (by decide +kernel) rfl rfl (byt_c hl0 (fun e he => hJ e he) (o2)) (fun y1 M1 e1 q1 => ?_)
  obtain ⟨rfl, rfl⟩ := q1
  show AW l (pI pg 176) P kc ks 111 [(0, .ref 58)] [.int (byV M (M.1 58 17))] SHF _
  refine fw_callSI (as := [.int (byV M (M.1 58 17))]) (dq rfl) (pg_ok.2.2.1 176 _ _ _ _ rfl) (by decide +kernel) rfl rfl (mdLe_c hl0) (fun y3 M3 e3 q3 => ?_)
  obtain ⟨rfl, rfl⟩ := q3
  show AW l (pI pg 176) P kc ks 114 [(0, .ref 58)] [.int (leV (byV M (M.1 58 17)))] SHF _
  refine AW.if_eq (dq rfl) (tgt := 167) (by decide) (fun h4 => ?_) (fun h4 => ?_)
  · have _ := h4
    refine AW.aload_n (dq rfl) rfl rfl ?_
    show AW l (pI pg 176) P kc ks 168 _ _ SHF _
    refine AW.iconst (dq rfl) ?_
    show AW l (pI pg 176) P kc ks 169 _ _ SHF _
    refine fw_putI (dq rfl) (pg_ok.2.1 176 _ _ _ _ rfl) rfl rfl rfl ?_
    show AW l (pI pg 176) P kc ks 172 _ _ SHF _
    refine AW.goto (dq rfl) (tgt := 278) (by decide) ?_
    refine AW.drop (lv' := [(0, .ref 58)]) (List.forall_mem_cons.mpr ⟨List.mem_of_getElem? (i := 0) rfl, fun _ h => absurd h List.not_mem_nil⟩) ?_
    exact k5 h4
  · have _ := h4
    refine AW.aload_n (dq rfl) rfl rfl ?_
    show AW l (pI pg 176) P kc ks 118 _ _ SHF _
    refine fw_get (dq rfl) (pg_ok.2.1 176 _ _ _ _ rfl) rfl (v := .int (M.1 58 17)) rfl ?_
    show AW l (pI pg 176) P kc ks 121 _ _ SHF _
    refine AW.aload_n (dq rfl) rfl rfl ?_
    show AW l (pI pg 176) P kc ks 122 _ _ SHF _
    refine fw_get (dq rfl) (pg_ok.2.1 176 _ _ _ _ rfl) rfl (v := .int (M.1 58 19)) rfl ?_
    show AW l (pI pg 176) P kc ks 125 _ _ SHF _
    refine AW.isub (dq rfl) ?_
    show AW l (pI pg 176) P kc ks 126 _ _ SHF _
    refine AW.bipush (dq rfl) ?_
    show AW l (pI pg 176) P kc ks 128 _ _ SHF _
    refine AW.icmp_ge (dq rfl) (tgt := 154) (by decide) (fun h6 => ?_) (fun h6 => ?_)
    · have _ := h6
      refine AW.drop (lv' := [(0, .ref 58)]) (List.forall_mem_cons.mpr ⟨List.mem_of_getElem? (i := 0) rfl, fun _ h => absurd h List.not_mem_nil⟩) ?_
      exact k7 h4 h6
    · have _ := h6
      refine AW.aload_n (dq rfl) rfl rfl ?_
      show AW l (pI pg 176) P kc ks 132 _ _ SHF _
      refine AW.aload_n (dq rfl) rfl rfl ?_
      show AW l (pI pg 176) P kc ks 133 _ _ SHF _
      refine fw_get (dq rfl) (pg_ok.2.1 176 _ _ _ _ rfl) rfl (v := .long (M.2.1 58 22)) rfl ?_
      show AW l (pI pg 176) P kc ks 136 _ _ SHF _
      refine AW.iconst (dq rfl) ?_
      show AW l (pI pg 176) P kc ks 137 _ _ SHF _
      refine AW.lshl (dq rfl) ?_
      show AW l (pI pg 176) P kc ks 138 _ _ SHF _
      refine AW.aload_n (dq rfl) rfl rfl ?_
      show AW l (pI pg 176) P kc ks 139 _ _ SHF _
      refine AW.aload_n (dq rfl) rfl rfl ?_
      show AW l (pI pg 176) P kc ks 140 _ _ SHF _
      refine fw_get (dq rfl) (pg_ok.2.1 176 _ _ _ _ rfl) rfl (v := .int (M.1 58 17)) rfl ?_
      show AW l (pI pg 176) P kc ks 143 _ _ SHF _
      refine fw_callVI (as := [.int (M.1 58 17)]) (dq rfl) (pg_ok.2.2.1 176 _ _ _ _ rfl) rfl (by decide +kernel) rfl rfl (byt_c hl0 (fun e he => hJ e he) (o2)) (fun y8 M8 e8 q8 => ?_)
      obtain ⟨rfl, rfl⟩ := q8
      show AW l (pI pg 176) P kc ks 146 [(0, .ref 58)] [.int (byV M (M.1 58 17)), .long ((M.2.1 58 22) <<< ((Int32.ofInt 5).toInt64 &&& 63)), .ref 58] SHF _
      refine AW.bipush (dq rfl) ?_
      show AW l (pI pg 176) P kc ks 148 _ _ SHF _
      refine AW.isub (dq rfl) ?_
      show AW l (pI pg 176) P kc ks 149 _ _ SHF _
      refine AW.i2l (dq rfl) ?_
      show AW l (pI pg 176) P kc ks 150 _ _ SHF _
      refine AW.lor (dq rfl) ?_
      show AW l (pI pg 176) P kc ks 151 _ _ SHF _
      refine fw_putJ (dq rfl) (pg_ok.2.1 176 _ _ _ _ rfl) rfl rfl rfl ?_
      show AW l (pI pg 176) P kc ks 154 _ _ SHF _
      refine AW.drop (lv' := [(0, .ref 58)]) (List.forall_mem_cons.mpr ⟨List.mem_of_getElem? (i := 0) rfl, fun _ h => absurd h List.not_mem_nil⟩) ?_
      exact k9 h4 h6

theorem stp_154 {l : aL} {P : aP} {kc ks : Nat} {M : aM} (hJ : ∀ e ∈ RM, M.2.2 e.1 e.2.1 = e.2.2) (hl0 : l.1.stackTraces = false) (k1 : AW l (pI pg 176) P kc ks 103 [(0, .ref 58)] [] SHF (aset M 58 17 (.int ((M.1 58 17) + (Int32.ofInt 1))))) : AW l (pI pg 176) P kc ks 154 [(0, .ref 58)] [] SHF M := by
  refine AW.aload_n (dq rfl) rfl rfl ?_
  show AW l (pI pg 176) P kc ks 155 _ _ SHF _
  refine AW.dup (dq rfl) rfl ?_
  show AW l (pI pg 176) P kc ks 156 _ _ SHF _
  refine fw_get (dq rfl) (pg_ok.2.1 176 _ _ _ _ rfl) rfl (v := .int (M.1 58 17)) rfl ?_
  show AW l (pI pg 176) P kc ks 159 _ _ SHF _
  refine AW.iconst (dq rfl) ?_
  show AW l (pI pg 176) P kc ks 160 _ _ SHF _
  refine AW.iadd (dq rfl) ?_
  show AW l (pI pg 176) P kc ks 161 _ _ SHF _
  refine fw_putI (dq rfl) (pg_ok.2.1 176 _ _ _ _ rfl) rfl rfl rfl ?_
  show AW l (pI pg 176) P kc ks 164 _ _ SHF _
  refine AW.goto (dq rfl) (tgt := 103) (by decide) ?_
  refine AW.drop (lv' := [(0, .ref 58)]) (List.forall_mem_cons.mpr ⟨List.mem_of_getElem? (i := 0) rfl, fun _ h => absurd h List.not_mem_nil⟩) ?_
  exact k1

theorem stp_182 {l : aL} {P : aP} {kc ks : Nat} {M : aM} (hJ : ∀ e ∈ RM, M.2.2 e.1 e.2.1 = e.2.2) (hl0 : l.1.stackTraces = false) (o2 : ¬ M.1 58 16 ≤ M.1 58 17 → vp_in (M.1 58 17) 800) (k5 : ∀ (h4 : (diV (byV M (M.1 58 17)) : Int32) = 0), AW l (pI pg 176) P kc ks 278 [(0, .ref 58)] [] SHF (aset M 58 18 (.int (Int32.ofInt 2)))) (k7 : ∀ (h4 : ¬ ((diV (byV M (M.1 58 17)) : Int32) = 0)), ∀ (h6 : (Int32.ofInt 4 : Int32) ≤ ((M.1 58 17) - (M.1 58 19) : Int32)), AW l (pI pg 176) P kc ks 232 [(0, .ref 58)] [] SHF M) (k9 : ∀ (h4 : ¬ ((diV (byV M (M.1 58 17)) : Int32) = 0)), ∀ (h6 : ¬ ((Int32.ofInt 4 : Int32) ≤ ((M.1 58 17) - (M.1 58 19) : Int32))), AW l (pI pg 176) P kc ks 232 [(0, .ref 58)] [] SHF (aset M 58 21 (.int (((((Int8.ofInt 10).toInt32) * (M.1 58 21)) + (byV M (M.1 58 17))) - ((Int8.ofInt 48).toInt32))))) : AW l (pI pg 176) P kc ks 182 [(0, .ref 58)] [] SHF M := by
  refine AW.aload_n (dq rfl) rfl rfl ?_
  show AW l (pI pg 176) P kc ks 183 _ _ SHF _
  refine AW.aload_n (dq rfl) rfl rfl ?_
  show AW l (pI pg 176) P kc ks 184 _ _ SHF _
  refine fw_get (dq rfl) (pg_ok.2.1 176 _ _ _ _ rfl) rfl (v := .int (M.1 58 17)) rfl ?_
  show AW l (pI pg 176) P kc ks 187 _ _ SHF _
  refine fw_callVI (as := [.int (M.1 58 17)]) (dq rfl) (pg_ok.2.2.1 176 _ _ _ _ rfl) rfl (by decide +kernel) rfl rfl (byt_c hl0 (fun e he => hJ e he) (o2)) (fun y1 M1 e1 q1 => ?_)
  obtain ⟨rfl, rfl⟩ := q1
  show AW l (pI pg 176) P kc ks 190 [(0, .ref 58)] [.int (byV M (M.1 58 17))] SHF _
  refine fw_callSI (as := [.int (byV M (M.1 58 17))]) (dq rfl) (pg_ok.2.2.1 176 _ _ _ _ rfl) (by decide +kernel) rfl rfl (mdDi_c hl0) (fun y3 M3 e3 q3 => ?_)
  obtain ⟨rfl, rfl⟩ := q3
  show AW l (pI pg 176) P kc ks 193 [(0, .ref 58)] [.int (diV (byV M (M.1 58 17)))] SHF _
  refine AW.if_eq (dq rfl) (tgt := 245) (by decide) (fun h4 => ?_) (fun h4 => ?_)
  · have _ := h4
    refine AW.aload_n (dq rfl) rfl rfl ?_
    show AW l (pI pg 176) P kc ks 246 _ _ SHF _
    refine AW.iconst (dq rfl) ?_
    show AW l (pI pg 176) P kc ks 247 _ _ SHF _
    refine fw_putI (dq rfl) (pg_ok.2.1 176 _ _ _ _ rfl) rfl rfl rfl ?_
    show AW l (pI pg 176) P kc ks 250 _ _ SHF _
    refine AW.goto (dq rfl) (tgt := 278) (by decide) ?_
    refine AW.drop (lv' := [(0, .ref 58)]) (List.forall_mem_cons.mpr ⟨List.mem_of_getElem? (i := 0) rfl, fun _ h => absurd h List.not_mem_nil⟩) ?_
    exact k5 h4
  · have _ := h4
    refine AW.aload_n (dq rfl) rfl rfl ?_
    show AW l (pI pg 176) P kc ks 197 _ _ SHF _
    refine fw_get (dq rfl) (pg_ok.2.1 176 _ _ _ _ rfl) rfl (v := .int (M.1 58 17)) rfl ?_
    show AW l (pI pg 176) P kc ks 200 _ _ SHF _
    refine AW.aload_n (dq rfl) rfl rfl ?_
    show AW l (pI pg 176) P kc ks 201 _ _ SHF _
    refine fw_get (dq rfl) (pg_ok.2.1 176 _ _ _ _ rfl) rfl (v := .int (M.1 58 19)) rfl ?_
    show AW l (pI pg 176) P kc ks 204 _ _ SHF _
    refine AW.isub (dq rfl) ?_
    show AW l (pI pg 176) P kc ks 205 _ _ SHF _
    refine AW.iconst (dq rfl) ?_
    show AW l (pI pg 176) P kc ks 206 _ _ SHF _
    refine AW.icmp_ge (dq rfl) (tgt := 232) (by decide) (fun h6 => ?_) (fun h6 => ?_)
    · have _ := h6
      refine AW.drop (lv' := [(0, .ref 58)]) (List.forall_mem_cons.mpr ⟨List.mem_of_getElem? (i := 0) rfl, fun _ h => absurd h List.not_mem_nil⟩) ?_
      exact k7 h4 h6
    · have _ := h6
      refine AW.aload_n (dq rfl) rfl rfl ?_
      show AW l (pI pg 176) P kc ks 210 _ _ SHF _
      refine AW.bipush (dq rfl) ?_
      show AW l (pI pg 176) P kc ks 212 _ _ SHF _
      refine AW.aload_n (dq rfl) rfl rfl ?_
      show AW l (pI pg 176) P kc ks 213 _ _ SHF _
      refine fw_get (dq rfl) (pg_ok.2.1 176 _ _ _ _ rfl) rfl (v := .int (M.1 58 21)) rfl ?_
      show AW l (pI pg 176) P kc ks 216 _ _ SHF _
      refine AW.imul (dq rfl) ?_
      show AW l (pI pg 176) P kc ks 217 _ _ SHF _
      refine AW.aload_n (dq rfl) rfl rfl ?_
      show AW l (pI pg 176) P kc ks 218 _ _ SHF _
      refine AW.aload_n (dq rfl) rfl rfl ?_
      show AW l (pI pg 176) P kc ks 219 _ _ SHF _
      refine fw_get (dq rfl) (pg_ok.2.1 176 _ _ _ _ rfl) rfl (v := .int (M.1 58 17)) rfl ?_
      show AW l (pI pg 176) P kc ks 222 _ _ SHF _
      refine fw_callVI (as := [.int (M.1 58 17)]) (dq rfl) (pg_ok.2.2.1 176 _ _ _ _ rfl) rfl (by decide +kernel) rfl rfl (byt_c hl0 (fun e he => hJ e he) (o2)) (fun y8 M8 e8 q8 => ?_)
      obtain ⟨rfl, rfl⟩ := q8
      show AW l (pI pg 176) P kc ks 225 [(0, .ref 58)] [.int (byV M (M.1 58 17)), .int (((Int8.ofInt 10).toInt32) * (M.1 58 21)), .ref 58] SHF _
      refine AW.iadd (dq rfl) ?_
      show AW l (pI pg 176) P kc ks 226 _ _ SHF _
      refine AW.bipush (dq rfl) ?_
      show AW l (pI pg 176) P kc ks 228 _ _ SHF _
      refine AW.isub (dq rfl) ?_
      show AW l (pI pg 176) P kc ks 229 _ _ SHF _
      refine fw_putI (dq rfl) (pg_ok.2.1 176 _ _ _ _ rfl) rfl rfl rfl ?_
      show AW l (pI pg 176) P kc ks 232 _ _ SHF _
      refine AW.drop (lv' := [(0, .ref 58)]) (List.forall_mem_cons.mpr ⟨List.mem_of_getElem? (i := 0) rfl, fun _ h => absurd h List.not_mem_nil⟩) ?_
      exact k9 h4 h6

theorem stp_232 {l : aL} {P : aP} {kc ks : Nat} {M : aM} (hJ : ∀ e ∈ RM, M.2.2 e.1 e.2.1 = e.2.2) (hl0 : l.1.stackTraces = false) (k1 : AW l (pI pg 176) P kc ks 182 [(0, .ref 58)] [] SHF (aset M 58 17 (.int ((M.1 58 17) + (Int32.ofInt 1))))) : AW l (pI pg 176) P kc ks 232 [(0, .ref 58)] [] SHF M := by
  refine AW.aload_n (dq rfl) rfl rfl ?_
  show AW l (pI pg 176) P kc ks 233 _ _ SHF _
  refine AW.dup (dq rfl) rfl ?_
  show AW l (pI pg 176) P kc ks 234 _ _ SHF _
  refine fw_get (dq rfl) (pg_ok.2.1 176 _ _ _ _ rfl) rfl (v := .int (M.1 58 17)) rfl ?_
  show AW l (pI pg 176) P kc ks 237 _ _ SHF _
  refine AW.iconst (dq rfl) ?_
  show AW l (pI pg 176) P kc ks 238 _ _ SHF _
  refine AW.iadd (dq rfl) ?_
  show AW l (pI pg 176) P kc ks 239 _ _ SHF _
  refine fw_putI (dq rfl) (pg_ok.2.1 176 _ _ _ _ rfl) rfl rfl rfl ?_
  show AW l (pI pg 176) P kc ks 242 _ _ SHF _
  refine AW.goto (dq rfl) (tgt := 182) (by decide) ?_
  refine AW.drop (lv' := [(0, .ref 58)]) (List.forall_mem_cons.mpr ⟨List.mem_of_getElem? (i := 0) rfl, fun _ h => absurd h List.not_mem_nil⟩) ?_
  exact k1

theorem stp_278 {l : aL} {P : aP} {kc ks : Nat} {M : aM} (hJ : ∀ e ∈ RM, M.2.2 e.1 e.2.1 = e.2.2) (hl0 : l.1.stackTraces = false) (r1 : P (.inl none) SHF (aset M 58 20 (.int ((M.1 58 17) - (M.1 58 19))))) : AW l (pI pg 176) P kc ks 278 [(0, .ref 58)] [] SHF M := by
  refine AW.aload_n (dq rfl) rfl rfl ?_
  show AW l (pI pg 176) P kc ks 279 _ _ SHF _
  refine AW.aload_n (dq rfl) rfl rfl ?_
  show AW l (pI pg 176) P kc ks 280 _ _ SHF _
  refine fw_get (dq rfl) (pg_ok.2.1 176 _ _ _ _ rfl) rfl (v := .int (M.1 58 17)) rfl ?_
  show AW l (pI pg 176) P kc ks 283 _ _ SHF _
  refine AW.aload_n (dq rfl) rfl rfl ?_
  show AW l (pI pg 176) P kc ks 284 _ _ SHF _
  refine fw_get (dq rfl) (pg_ok.2.1 176 _ _ _ _ rfl) rfl (v := .int (M.1 58 19)) rfl ?_
  show AW l (pI pg 176) P kc ks 287 _ _ SHF _
  refine AW.isub (dq rfl) ?_
  show AW l (pI pg 176) P kc ks 288 _ _ SHF _
  refine fw_putI (dq rfl) (pg_ok.2.1 176 _ _ _ _ rfl) rfl rfl rfl ?_
  show AW l (pI pg 176) P kc ks 291 _ _ SHF _
  refine AW.vret (dq rfl) rfl ?_
  exact r1

