/-! PURE ROWS: the next set, in numbers -/
/-- the next subset of m behind x (all subsets in ascending order, 0 behind the last) -/
def nxS (x m : Nat) : Nat := (x + 64 - m) % 64 &&& m
theorem nxS_lt {x m : Nat} (h : m < 64) : nxS x m < 64 := Nat.lt_of_le_of_lt Nat.and_le_right h
theorem nxS_I : ∀ m, m < 64 → ∀ x, x < 64 → (nI x - nI m) &&& nI m = nI (nxS x m) := by decide +kernel
theorem nextSet_spec {x m : Nat} {P : Int32 → Prop} (hm : m < 64) (hx : x < 64) (hP : P (nI (nxS x m))) : wp_X1_nextSet (nI x) (nI m) P := by
  unfold wp_X1_nextSet
  rw [nxS_I m hm x hx]
  exact hP
/-- one step of the search for the next pair: found, none left, or on -/
def nxP : Nat → Nat → Nat → Nat → Nat → Bool × Nat × Nat
  | 0, _, _, o, i => (false, o, i)
  | k + 1, ml, me, o, i => if o = 0 then (false, o, i) else
      let j := nxS i me
      if j = 0 then nxP k ml me (nxS o ml) j
      else if pop6 j = pop6 o then (true, o, j) else nxP k ml me o j
theorem next_spec {ml me o i : Nat} {P : Int32 → Int32 → Int32 → Prop} (h1 : ml < 64) (h2 : me < 64) (ho : o < 64) (hi : i < 64) (hP : P (if (nxP 64 ml me o i).1 then 1 else 0) (nI (nxP 64 ml me o i).2.1) (nI (nxP 64 ml me o i).2.2)) : wp_X1_next (nI ml) (nI me) (nI o) (nI i) P := by
  unfold wp_X1_next
  refine ⟨fun x v2 v3 => ∃ k a c : Nat, k ≤ 64 ∧ a < 64 ∧ c < 64 ∧ x = nI (64 - k) ∧ v2 = nI a ∧ v3 = nI c ∧ nxP k ml me a c = nxP 64 ml me o i, fun x _ _ => 64 - x.toNatClampNeg, ⟨64, o, i, by decide, ho, hi, rfl, rfl, rfl, rfl⟩, ?_⟩
  rintro x v2 v3 ⟨k, a, c, hk, ha, hc, rfl, rfl, rfl, he⟩
  rw [← he] at hP
  refine ⟨fun c1 => ?_, fun c1 => ?_⟩
  · have := (nI_leI (a := 64) (by decide) (by omega)).mp c1
    have : k = 0 := by omega
    subst this
    exact hP
  · obtain ⟨k, rfl⟩ : ∃ j, k = j + 1 := by
      cases k with
      | zero => exact absurd (nI_le (a := 64) (b := 64 - 0) (by decide) (by decide)) c1
      | succ j => exact ⟨j, rfl⟩
    have K : ∀ (x11 : Int32) (a' c' : Nat), a' < 64 → c' < 64 → nxP k ml me a' c' = nxP (k + 1) ml me a c → x11 = nI (64 - (k + 1)) + 1 → (∃ k2 a c : Nat, k2 ≤ 64 ∧ a < 64 ∧ c < 64 ∧ x11 = nI (64 - k2) ∧ nI a' = nI a ∧ nI c' = nI c ∧ nxP k2 ml me a c = nxP 64 ml me o i) ∧ 64 - x11.toNatClampNeg < 64 - (nI (64 - (k + 1))).toNatClampNeg := by
      intro x11 a' c' ha' hc' e ex
      rw [nI_1, show 64 - (k + 1) + 1 = 64 - k by omega] at ex
      refine ⟨⟨k, a', c', by omega, ha', hc', ex, rfl, rfl, e.trans he⟩, ?_⟩
      rw [ex, nI_clamp (by omega), nI_clamp (by omega)]
      omega
    refine ⟨fun c2 => ?_, fun c2 => ?_⟩
    · have a0 : a = 0 := (nI_eq (b := 0) (by omega) (by decide)).mp c2
      subst a0
      exact hP
    · have a0 : ¬ a = 0 := fun z => c2 (by rw [z]; rfl)
      have hj := nxS_lt (x := c) h2
      refine nextSet_spec h2 hc ⟨fun c3 => ?_, fun c3 => ?_⟩
      · have j0 : ¬ nxS c me = 0 := fun z => c3 (by rw [z]; rfl)
        refine bc_spec hj (bc_spec ha ⟨fun c4 x11 e11 => ?_, fun c4 => ?_⟩)
        · have p0 : ¬ pop6 (nxS c me) = pop6 a := fun z => c4 (by rw [z])
          exact K x11 a (nxS c me) ha hj (by simp [nxP, a0, j0, p0]) e11
        · have pl : ∀ m, pop6 m < 2 ^ 31 := fun m => by
            have b : ∀ q : Bool, q.toNat ≤ 1 := Bool.toNat_le
            unfold pop6
            have := b (m.testBit 0); have := b (m.testBit 1); have := b (m.testBit 2); have := b (m.testBit 3); have := b (m.testBit 4); have := b (m.testBit 5)
            omega
          have p0 := (nI_eq (pl _) (pl _)).mp c4
          have e : nxP (k + 1) ml me a c = (true, a, nxS c me) := by simp [nxP, a0, j0, p0]
          rw [e] at hP
          exact hP
      · have j0 : nxS c me = 0 := (nI_eq (b := 0) (by omega) (by decide)).mp c3
        refine nextSet_spec h1 ha (fun x13 e13 => K x13 (nxS a ml) (nxS c me) (nxS_lt h1) hj (by simp [nxP, a0, j0]) e13)
