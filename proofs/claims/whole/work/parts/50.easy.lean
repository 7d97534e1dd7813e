/-! PURE ROWS: the small calls -/
theorem i_pred (j : Nat) : nI (j + 1) + (-1 : Int32) = nI j := by
  rw [← nI_add, Int32.add_assoc, show nI 1 + (-1 : Int32) = 0 from by decide, Int32.add_zero]
/-- a counter that goes down to -1 -/
def dn : Nat → Int32
  | 0 => -1
  | j + 1 => nI j
theorem dn_0 : dn 0 < 0 := by decide
theorem dn_s {j : Nat} (h : j < 2 ^ 31) : ¬ dn (j + 1) < 0 := nI_pos h
theorem dn_p (j : Nat) : dn (j + 1) + (-1 : Int32) = dn j := by
  cases j with
  | zero => decide
  | succ j => exact i_pred j
theorem dn_1 (j : Nat) : dn j + 1 = nI j := by
  cases j with
  | zero => decide
  | succ j => exact nI_1 j
theorem dn_of (q : Nat) (h : 1 ≤ q) : nI q - 1 = dn q := by
  cases q with
  | zero => omega
  | succ q => exact nI_pred q
theorem cmp_lt (x y : Int64) : lg_cmp x y < 0 ↔ x < y := by
  unfold lg_cmp
  by_cases c : x > y
  · rw [if_pos c]
    refine ⟨fun h => absurd h (by decide), fun h => ?_⟩
    have c2 := Int64.lt_iff_toInt_lt.mp c
    have h2 := Int64.lt_iff_toInt_lt.mp h
    omega
  · rw [if_neg c]
    by_cases e : x = y
    · subst e
      rw [if_pos rfl]
      exact ⟨fun h => absurd h (by decide), fun h => absurd h c⟩
    · rw [if_neg e]
      have : x.toInt ≠ y.toInt := fun h => e (Int64.toInt_inj.mp h)
      have c2 : ¬ (y.toInt < x.toInt) := fun h => c (Int64.lt_iff_toInt_lt.mpr h)
      exact ⟨fun _ => Int64.lt_iff_toInt_lt.mpr (by omega), fun _ => by decide⟩
theorem cmp_gt (x y : Int64) : 0 < lg_cmp x y ↔ y < x := by
  unfold lg_cmp
  by_cases c : x > y
  · rw [if_pos c]
    exact ⟨fun _ => c, fun _ => by decide⟩
  · rw [if_neg c]
    by_cases e : x = y
    · rw [if_pos e]
      exact ⟨fun h => absurd h (by decide), fun h => absurd h c⟩
    · rw [if_neg e]
      exact ⟨fun h => absurd h (by decide), fun h => absurd h c⟩
theorem in_spec {x a c : Int64} {P : Int32 → Prop} (h1 : (a ≤ x ∧ x ≤ c) → P 1) (h0 : ¬ (a ≤ x ∧ x ≤ c) → P 0) : wp_X11_in x a c P := by
  unfold wp_X11_in
  rw [cmp_lt, cmp_gt]
  rw [Int64.le_iff_toInt_le, Int64.le_iff_toInt_le] at h1 h0
  rw [Int64.lt_iff_toInt_lt, Int64.lt_iff_toInt_lt]
  exact ⟨fun c1 => h0 (by omega), fun c1 => ⟨fun c2 => h0 (by omega), fun c2 => h1 (by omega)⟩⟩
theorem s_unsee : S_unsee := by
  intro a b f g f2 g2 h
  unfold wp_X10_unsee wp_X7_size wp_X7_clear wp_X11_unsee
  obtain ⟨k, SF, SN, hk, e1, e2, hi⟩ := h
  exact ⟨e1.trans e2.symm, 0, SF, SN, by decide, rfl, rfl, fun i h => absurd h (Nat.not_lt_zero i)⟩
theorem s_wipe : S_wipe := by
  intro a b f g h
  unfold wp_X10_wipe wp_X9_size wp_X9_clear wp_X11_wipe
  obtain ⟨n, hn, e1, e2, hi⟩ := h
  exact ⟨e1.trans e2.symm, 0, by decide, rfl, rfl, fun i h => absurd h (Nat.not_lt_zero i)⟩
theorem ix11 : wp_X11_init (fun f g => ∀ k, k < 6 → f k = 8 ∧ g k = 10) := by
  unfold wp_X11_init
  refine ⟨fun x f g => ∃ j : Nat, j ≤ 6 ∧ x = nI j ∧ ∀ k, k < j → f k = 8 ∧ g k = 10, fun x _ _ => 6 - x.toNatClampNeg, ⟨0, by decide, rfl, fun k h => absurd h (Nat.not_lt_zero k)⟩, ?_⟩
  rintro x f g ⟨j, hj, rfl, h⟩
  refine ⟨fun c k hk => h k ?_, fun c => ?_⟩
  · have := (nI_leI (a := 6) (by decide) (by omega)).mp c
    omega
  · have hj6 : j < 6 := by
      apply Nat.lt_of_not_le
      intro q
      exact c (nI_le (a := 6) q (by omega))
    refine ⟨vp_in_nI hj6 (by decide), fun f6 e6 => ⟨vp_in_nI hj6 (by decide), fun f8 e8 x9 e9 => ⟨⟨j + 1, hj6, by rw [e9, nI_1], fun k hk => ?_⟩, ?_⟩⟩⟩
    · rw [nI_clamp (by omega)] at e6 e8
      subst e6; subst e8
      unfold upd
      by_cases q : k = j
      · subst q; simp
      · simp only [q, if_false]; exact h k (by omega)
    · show 6 - x9.toNatClampNeg < 6 - (nI j).toNatClampNeg
      rw [e9, nI_1, nI_clamp (by omega), nI_clamp (by omega)]; omega
theorem ix10 : wp_X10_init (fun f => ∀ k, k < 6 → f k = 10) := by
  unfold wp_X10_init wp_X9_init wp_X4_init wp_X5_init wp_X6_init wp_X1_init wp_X3_init wp_X7_init wp_X1_init wp_X0_init wp_J7_fill_53178
  intro x1 e1
  refine ⟨fun x f => ∃ j : Nat, j ≤ 6 ∧ x = nI j ∧ ∀ k, k < j → f k = 10, fun x _ => 6 - x.toNatClampNeg, ⟨0, by decide, rfl, fun k h => absurd h (Nat.not_lt_zero k)⟩, ?_⟩
  have e1 : x1 = nI 6 := e1
  subst e1
  rintro x f ⟨j, hj, rfl, h⟩
  refine ⟨fun c k hk => h k ?_, fun c => ?_⟩
  · have := (nI_leI (a := 6) (by decide) (by omega)).mp c
    omega
  · have hj6 : j < 6 := by
      apply Nat.lt_of_not_le
      intro q
      exact c (nI_le (a := 6) q (by omega))
    refine ⟨vp_in_nI hj6 (by decide), fun f6 e6 x9 e9 => ⟨⟨j + 1, hj6, by rw [e9, nI_1], fun k hk => ?_⟩, ?_⟩⟩
    · rw [nI_clamp (by omega)] at e6
      subst e6
      unfold upd
      by_cases q : k = j
      · subst q; simp
      · simp only [q, if_false]; exact h k (by omega)
    · show 6 - x9.toNatClampNeg < 6 - (nI j).toNatClampNeg
      rw [e9, nI_1, nI_clamp (by omega), nI_clamp (by omega)]; omega
