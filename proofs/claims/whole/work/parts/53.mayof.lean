/-! PURE ROWS: who may, the reference's way -/
theorem orB2 {m j : Nat} (h : m < 2 ^ j) (hj : j < 31) : nI m ||| ((1 : Int32) <<< (nI j &&& 31)) = nI (m + 2 ^ j) := by
  rw [sh1 j hj, fa_or, Nat.or_comm, ← Nat.mul_one (2 ^ j), ← Nat.two_pow_add_eq_or_of_lt h, Nat.mul_one, Nat.add_comm]
theorem mayOf_spec {n r f : Nat} {w b : Nat → Nat} {s : List Nat} {p2 : Int32} {mat mw : Nat → Int32} {P : Int32 → Prop} (hs : StG n r b s) (hr : r ≤ 4) (hf : f < 6) (hat : ∀ k, k < 6 → mat k = nI (pz s k)) (hw : ∀ k, k < r → mw k = nI (w k) ∧ w k < n) (hP : P (nI (if p2 = 0 then inM s f else outM w s f))) : wp_X11_mayOf (nI f) p2 6 mat mw P := by
  unfold wp_X11_mayOf
  obtain ⟨Q, hQ⟩ : ∃ Q : Nat → Bool, Q = fun k => if p2 = 0 then pz s k == f else pz s k == 6 && (decide (4 ≤ k) || w k == f) := ⟨_, rfl⟩
  have hz := hs.2.pz hs.1
  have hE : nI (bitsN 6 Q) = nI (if p2 = 0 then inM s f else outM w s f) := by
    rw [hQ]
    by_cases c : p2 = 0
    · simp only [c, if_true]; rw [← bits6_N]; rfl
    · simp only [c, if_false]; rw [← bits6_N]; rfl
  rw [← hE] at hP
  refine ⟨fun x1 x2 => ∃ j : Nat, j ≤ 6 ∧ x2 = nI j ∧ x1 = nI (bitsN j Q), fun _ x2 => 6 - x2.toNatClampNeg, ⟨0, by decide, rfl, rfl⟩, ?_⟩
  rintro x1 x2 ⟨j, hj, rfl, rfl⟩
  refine ⟨fun c => ?_, fun c => ?_⟩
  · have := (nI_leI (a := 6) (by decide) (by omega)).mp c
    have e : j = 6 := by omega
    subst e
    exact hP
  have hj6 : j < 6 := by
    apply Nat.lt_of_not_le
    intro q
    exact c (nI_le (a := 6) q (by omega))
  have K : ∀ (x8 x9 : Int32), x8 = nI (bitsN (j + 1) Q) → x9 = nI j + 1 → (∃ i : Nat, i ≤ 6 ∧ x9 = nI i ∧ x8 = nI (bitsN i Q)) ∧ 6 - x9.toNatClampNeg < 6 - (nI j).toNatClampNeg := by
    intro x8 x9 e8 e9
    rw [nI_1] at e9
    refine ⟨⟨j + 1, hj6, e9, e8⟩, ?_⟩
    rw [e9, nI_clamp (by omega), nI_clamp (by omega)]
    omega
  have kt : Q j = true → ∀ (x8 : Int32), x8 = nI (bitsN j Q) ||| ((1 : Int32) <<< (nI j &&& 31)) → ∀ x9 : Int32, x9 = nI j + 1 → (∃ i : Nat, i ≤ 6 ∧ x9 = nI i ∧ x8 = nI (bitsN i Q)) ∧ 6 - x9.toNatClampNeg < 6 - (nI j).toNatClampNeg := by
    intro q x8 e8 x9 e9
    refine K x8 x9 ?_ e9
    rw [e8, orB2 (bitsN_lt j Q) (by omega)]
    show _ = nI (bitsN j Q + bN (Q j) (2 ^ j))
    rw [q]; rfl
  have kf : Q j = false → ∀ (x8 : Int32), x8 = nI (bitsN j Q) ||| (0 : Int32) → ∀ x9 : Int32, x9 = nI j + 1 → (∃ i : Nat, i ≤ 6 ∧ x9 = nI i ∧ x8 = nI (bitsN i Q)) ∧ 6 - x9.toNatClampNeg < 6 - (nI j).toNatClampNeg := by
    intro q x8 e8 x9 e9
    refine K x8 x9 ?_ e9
    rw [e8, show (0 : Int32) = nI 0 from rfl, fa_or, Nat.or_zero]
    show _ = nI (bitsN j Q + bN (Q j) (2 ^ j))
    rw [q]; rfl
  have hcl : (nI j).toNatClampNeg = j := nI_clamp (by omega)
  have hp9 := (hz.2 j hj6).1
  refine ⟨fun c2 => ⟨vp_in_nI hj6 (by decide), ?_, ?_⟩, fun c2 => ⟨vp_in_nI hj6 (by decide), ?_, ?_⟩⟩
  · intro c3
    rw [hcl, hat j hj6, nI_eq (by omega) (by omega)] at c3
    exact kf (by rw [hQ]; simp [c2, c3])
  · intro c3
    rw [hcl, hat j hj6, nI_eq (by omega) (by omega)] at c3
    exact kt (by rw [hQ]; simp [c2, c3])
  · intro c3
    rw [hcl, hat j hj6] at c3
    have c3 : ¬ pz s j = 6 := fun z => c3 (by rw [z]; rfl)
    exact kf (by rw [hQ]; simp [c2, c3])
  · intro c3
    rw [hcl, hat j hj6] at c3
    have c3 : pz s j = 6 := (nI_eq (b := 6) (by omega) (by decide)).mp c3
    refine ⟨fun c4 => ?_, fun c4 => ?_⟩
    · have c4 : 4 ≤ j := (nI_leI (a := 4) (by decide) (by omega)).mp c4
      exact kt (by rw [hQ]; simp [c2, c3, c4])
    · have c4 : ¬ 4 ≤ j := fun z => c4 (nI_le (a := 4) z (by omega))
      have hjr : j < r := by
        apply Nat.lt_of_not_le
        intro z
        have := hs.2.2.2.1 j (by omega) z
        omega
      obtain ⟨w1, w2⟩ := hw j hjr
      have hn6 := hs.1
      refine ⟨vp_in_nI (by omega) (by decide), fun c5 => ?_, fun c5 => ?_⟩
      · rw [hcl, w1, nI_eq (by omega) (by omega)] at c5
        exact kf (by rw [hQ]; simp [c2, c3, c4, c5])
      · rw [hcl, w1, nI_eq (by omega) (by omega)] at c5
        exact kt (by rw [hQ]; simp [c2, c3, c4, c5])
