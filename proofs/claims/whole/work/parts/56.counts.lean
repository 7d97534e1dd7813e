/-! PURE ROWS: counts, told -/
def bcf (p0 : Int32) : Int32 :=
  let x1 := p0 - (((p0.toUInt32 >>> ((1 : Int32).toUInt32 &&& Int32.toUInt32 31)).toInt32) &&& (1431655765 : Int32))
  let x2 := (x1 &&& (858993459 : Int32)) + (((x1.toUInt32 >>> ((2 : Int32).toUInt32 &&& Int32.toUInt32 31)).toInt32) &&& (858993459 : Int32))
  let x3 := (x2 + ((x2.toUInt32 >>> ((4 : Int32).toUInt32 &&& Int32.toUInt32 31)).toInt32)) &&& (252645135 : Int32)
  let x4 := x3 + ((x3.toUInt32 >>> ((8 : Int32).toUInt32 &&& Int32.toUInt32 31)).toInt32)
  let x5 := x4 + ((x4.toUInt32 >>> ((16 : Int32).toUInt32 &&& Int32.toUInt32 31)).toInt32)
  x5 &&& (63 : Int32)
theorem bcf_64 : ∀ m, m < 64 → bcf (nI m) = nI (pop6 m) := by decide +kernel
theorem bc_spec {m : Nat} {P : Int32 → Prop} (hm : m < 64) (hP : P (nI (pop6 m))) : wp_J6_bitCount_0f7a4 (nI m) P := by
  unfold wp_J6_bitCount_0f7a4
  rintro x1 rfl x2 rfl x3 rfl x4 rfl x5 rfl
  have h := bcf_64 m hm
  unfold bcf at h
  rw [← h] at hP
  exact hP
def cntN : Nat → (Nat → Bool) → Nat
  | 0, _ => 0
  | n + 1, Q => cntN n Q + (Q n).toNat
theorem cntN_le (n : Nat) (Q : Nat → Bool) : cntN n Q ≤ n := by
  induction n with
  | zero => exact Nat.le_refl 0
  | succ n ih =>
    have : (Q n).toNat ≤ 1 := Bool.toNat_le (Q n)
    unfold cntN
    omega
theorem pop_bits6 (Q : Nat → Bool) : pop6 (bits6 Q) = cntN 6 Q := by
  unfold pop6
  simp only [bits6_tb, cntN]
  simp
theorem countAt_spec {v : Nat} {s : List Nat} {mat : Nat → Int32} {P : Int32 → Prop} (hz : PzOk s) (hv : v < 2 ^ 31) (hat : ∀ k, k < 6 → mat k = nI (pz s k)) (hP : P (nI (cntN 6 fun k => pz s k == v))) : wp_X11_countAt (nI v) mat P := by
  unfold wp_X11_countAt
  refine ⟨fun x1 x2 => ∃ j : Nat, j ≤ 6 ∧ x2 = nI j ∧ x1 = nI (cntN j fun k => pz s k == v), fun _ x2 => 6 - x2.toNatClampNeg, ⟨0, by decide, rfl, rfl⟩, ?_⟩
  rintro x1 x2 ⟨j, hj, rfl, rfl⟩
  refine ⟨fun c => ?_, fun c => ?_⟩
  · have := (nI_leI (a := 6) (by decide) (by omega)).mp c
    have e : j = 6 := by omega
    subst e
    exact hP
  have hj6 : j < 6 := by
    apply Nat.lt_of_not_le
    intro q
    exact c (nI_le (a := 6) q (by omega))
  have K : ∀ (x8 x9 : Int32), x8 = nI (cntN (j + 1) fun k => pz s k == v) → x9 = nI j + 1 → (∃ i : Nat, i ≤ 6 ∧ x9 = nI i ∧ x8 = nI (cntN i fun k => pz s k == v)) ∧ 6 - x9.toNatClampNeg < 6 - (nI j).toNatClampNeg := by
    intro x8 x9 e8 e9
    rw [nI_1] at e9
    refine ⟨⟨j + 1, hj6, e9, e8⟩, ?_⟩
    rw [e9, nI_clamp (by omega), nI_clamp (by omega)]
    omega
  have hp9 := (hz.2 j hj6).1
  refine ⟨vp_in_nI hj6 (by decide), fun c3 x6 e6 x7 e7 => K x6 x7 ?_ e7, fun c3 x6 e6 x7 e7 => K x6 x7 ?_ e7⟩
  · rw [nI_clamp (by omega), hat j hj6, nI_eq (by omega) hv] at c3
    have : (pz s j == v) = false := by simp [c3]
    rw [e6, show (0 : Int32) = nI 0 from rfl, nI_add]
    show _ = nI (cntN j _ + (pz s j == v).toNat)
    rw [this]; rfl
  · rw [nI_clamp (by omega), hat j hj6, nI_eq (by omega) hv] at c3
    have : (pz s j == v) = true := by simp [c3]
    rw [e6, nI_1]
    show _ = nI (cntN j _ + (pz s j == v).toNat)
    rw [this]; rfl
theorem pop_bits4 (s : List Nat) (h : PzOk s) : pop6 (bits4 fun k => pz s k == 7) = cntN 6 fun k => pz s k == 7 := by
  have e4 : (pz s 4 == 7) = false := by simpa using (h.2 4 (by decide)).2 (by decide)
  have e5 : (pz s 5 == 7) = false := by simpa using (h.2 5 (by decide)).2 (by decide)
  unfold pop6
  simp only [bits4_tb, cntN]
  simp [e4, e5]
