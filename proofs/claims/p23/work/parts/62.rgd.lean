/-! the intervals of a house's cells, to be carried through the reading -/
def rgI : Nat → iI
  | 1 => (0, 24)
  | 2 => (0, 1000)
  | 3 => (0, 255)
  | 4 => (0, 255)
  | 5 => (0, 23)
  | 6 => (0, 8)
  | 7 => (0, 63)
  | 8 => (0, 9)
  | 9 => (0, 5)
  | 10 => (0, 7)
  | 11 => (0, 9)
  | _ => (0, 99)
def rgK : Nat → iI
  | 0 => (0, 6)
  | 1 => (0, 8)
  | 2 => (0, 8)
  | _ => (0, 50)
def rgD (d : Nat) (M : aM) : Prop := (∀ f, f < 4 → inI (M.1 d f) (rgK f)) ∧ ∀ j, 1 ≤ j → j ≤ 12 → ∀ k, inI (M.1 (d + j) k) (rgI j)
theorem rgD_a {d : Nat} {M : aM} {j k : Nat} {x : Int32} (h : rgD d M) (h1 : 1 ≤ j) (hx : inI x (rgI j)) : rgD d (aset M (d + j) k (.int x)) := by
  refine ⟨fun f hf => ?_, fun i i1 i2 c => ?_⟩
  · rw [set_1, if_neg (by omega)]
    exact h.1 f hf
  · rw [set_1]
    by_cases e : d + i = d + j
    · have e2 : i = j := by omega
      subst e2
      rw [if_pos rfl]
      by_cases e3 : c = k
      · rw [if_pos e3]
        exact hx
      · rw [if_neg e3]
        exact h.2 i i1 i2 c
    · rw [if_neg e]
      exact h.2 i i1 i2 c
theorem rgD_k {d : Nat} {M : aM} {f : Nat} {x : Int32} (h : rgD d M) (hx : inI x (rgK f)) : rgD d (aset M d f (.int x)) := by
  refine ⟨fun g hg => ?_, fun i i1 i2 c => ?_⟩
  · rw [set_1, if_pos rfl]
    by_cases e : g = f
    · rw [if_pos e, e]
      exact hx
    · rw [if_neg e]
      exact h.1 g hg
  · rw [set_1, if_neg (by omega)]
    exact h.2 i i1 i2 c
theorem rgD_eq {d : Nat} {M M1 : aM} (h : rgD d M) (hF : ∀ a k, d ≤ a → a ≤ d + 12 → M1.1 a k = M.1 a k) : rgD d M1 := ⟨fun f hf => by rw [hF d f (by omega) (by omega)]; exact h.1 f hf, fun j j1 j2 k => by rw [hF (d + j) k (by omega) (by omega)]; exact h.2 j j1 j2 k⟩
theorem rgD_r {d : Nat} {M M1 : aM} (hd : 3 ≤ d) (h : rgD d M) (hF : rfF M M1) : rgD d M1 := rgD_eq h (fun a k h1 _ => hF.1 a k (fun e => by omega) (fun e => by omega))
theorem inI_n {v m : Nat} (h : v ≤ m) (hm : m < 2 ^ 31) : inI (nI v) (0, (m : Int)) := by
  refine ⟨?_, ?_⟩
  · rw [nI_toInt (by omega)]
    exact Int.natCast_nonneg v
  · rw [nI_toInt (by omega)]
    show (v : Int) ≤ (m : Int)
    omega
