/-! PURE ROWS: write, see -/
def byX (p : Int64) (k : Nat) : Int32 := ((p >>> (((8 : Int32) * nI k).toInt64 &&& 63)) &&& (255 : Int64)).toInt32
theorem byX_M (p : Int64) (k : Nat) : ((p >>> (((8 : Int32) * nI k).toInt64 &&& 63)).toInt32) &&& (255 : Int32) = byX p k := by
  unfold byX
  rw [Int64.toInt32_and]
  rfl
theorem byX_lt (p : Int64) (k : Nat) : ∃ c : Nat, c < 256 ∧ byX p k = nI c := by
  rw [← byX_M]
  generalize (p >>> (((8 : Int32) * nI k).toInt64 &&& 63)).toInt32 = v
  refine ⟨(v &&& 255).toBitVec.toNat, ?_, ?_⟩
  · show (v.toBitVec &&& (255 : Int32).toBitVec).toNat < 256
    rw [BitVec.toNat_and]
    exact Nat.lt_of_le_of_lt Nat.and_le_right (by decide)
  · apply Int32.toBitVec_inj.1
    show (v &&& 255).toBitVec = BitVec.ofNat 32 (v &&& 255).toBitVec.toNat
    simp
theorem upd_eq (f : Nat → Int32) (i : Nat) (v : Int32) : upd f i v i = v := by unfold upd; simp
theorem upd_ne (f : Nat → Int32) {i j : Nat} (v : Int32) (h : j ≠ i) : upd f i v j = f j := by unfold upd; simp [h]
/-- what both write -/
def Wr (p1 : Int64) (n q j : Nat) (f g : Nat → Int32) : Prop := (∀ i, i < n → g i = f i) ∧ ∀ t, t < q - j → g (n + t) = byX p1 (q - 1 - t)
theorem Wr.step {p1 : Int64} {n q j : Nat} {f g : Nat → Int32} (h : Wr p1 n q (j + 1) f g) (hj : j + 1 ≤ q) : Wr p1 n q j f (upd g (n + (q - (j + 1))) (byX p1 j)) := by
  refine ⟨fun i hi => by rw [upd_ne _ _ (by omega)]; exact h.1 i hi, fun t ht => ?_⟩
  by_cases c : t = q - (j + 1)
  · rw [c, upd_eq]; congr 1; omega
  · rw [upd_ne _ _ (by omega)]; exact h.2 t (by omega)
theorem i64_of (x : Int32) : x.toInt64.toInt = x.toInt := Int32.toInt_toInt64 x
theorem mw_bad {p0 : Int32} {p1 : Int64} {tz : Int32} {ft : Nat → Int32} {P : Int32 → Int32 → Int32 → (Nat → Int32) → Prop} (h : p0 < 1 ∨ ¬ p0 ≤ 8) (hP : P (-2) 0 tz ft) : wp_X11_write p0 p1 tz ft P := by
  unfold wp_X11_write
  refine in_spec (fun c => ?_) (fun _ => ⟨fun c => absurd rfl c, fun _ => hP⟩)
  exfalso
  rw [Int64.le_iff_toInt_le, Int64.le_iff_toInt_le, i64_of] at c
  rw [Int32.lt_iff_toInt_lt, Int32.le_iff_toInt_le] at h
  rw [show (1 : Int32).toInt = 1 from by decide, show (8 : Int32).toInt = 8 from by decide] at h
  rw [show (1 : Int64).toInt = 1 from by decide, show (8 : Int64).toInt = 8 from by decide] at c
  omega
theorem in_18 {q : Nat} (h1 : 1 ≤ q) (h8 : q ≤ 8) : (1 : Int64) ≤ (nI q).toInt64 ∧ (nI q).toInt64 ≤ (8 : Int64) := by
  rw [Int64.le_iff_toInt_le, Int64.le_iff_toInt_le, i64_of, nI_toInt (by omega), show (1 : Int64).toInt = 1 from by decide, show (8 : Int64).toInt = 8 from by decide]
  omega
theorem le40 {n q : Nat} (hn : n ≤ 40) (hq : q ≤ 8) : nI n + nI q ≤ (40 : Int32) ↔ n + q ≤ 40 := by
  rw [nI_add]
  exact nI_leI (a := n + q) (b := 40) (by omega) (by decide)
theorem mw_full {n q : Nat} {p1 : Int64} {ft : Nat → Int32} {P : Int32 → Int32 → Int32 → (Nat → Int32) → Prop} (h1 : 1 ≤ q) (h8 : q ≤ 8) (hn : n ≤ 40) (hf : ¬ n + q ≤ 40) (hP : P (-4) 0 (nI n) ft) : wp_X11_write (nI q) p1 (nI n) ft P := by
  unfold wp_X11_write
  refine in_spec (fun _ => ⟨fun _ => ⟨fun c => absurd ((le40 hn h8).mp c) hf, fun _ => hP⟩, fun c => absurd c (by decide)⟩) (fun c => absurd (in_18 h1 h8) c)
theorem mw_ok {n q : Nat} {p1 : Int64} {ft : Nat → Int32} {P : Int32 → Int32 → Int32 → (Nat → Int32) → Prop} (h1 : 1 ≤ q) (h8 : q ≤ 8) (hf : n + q ≤ 40) (hP : ∀ g, Wr p1 n q 0 ft g → P (nI (n + q)) 0 (nI (n + q)) g) : wp_X11_write (nI q) p1 (nI n) ft P := by
  unfold wp_X11_write
  refine in_spec (fun _ => ⟨fun _ => ⟨fun _ x4 e4 => ?_, fun c => absurd ((le40 (by omega) h8).mpr hf) c⟩, fun c => absurd c (by decide)⟩) (fun c => absurd (in_18 h1 h8) c)
  rw [dn_of q h1] at e4
  subst e4
  refine ⟨fun x v g => ∃ j : Nat, j ≤ q ∧ x = dn j ∧ v = nI (n + (q - j)) ∧ Wr p1 n q j ft g, fun x _ _ => (x + 1).toNatClampNeg, ⟨q, Nat.le_refl q, rfl, by rw [Nat.sub_self, Nat.add_zero], fun i _ => rfl, fun t ht => by omega⟩, ?_⟩
  rintro x v g ⟨j, hj, rfl, rfl, hw⟩
  cases j with
  | zero => exact ⟨fun _ => hP g hw, fun c => absurd dn_0 c⟩
  | succ j =>
    refine ⟨fun c => absurd c (dn_s (by omega)), fun _ x9 e9 => ⟨vp_in_nI (by omega) (by decide), fun f11 e11 x12 e12 x13 e13 => ⟨⟨j, by omega, by rw [e13, dn_p], by rw [e12, nI_1]; congr 1; omega, ?_⟩, ?_⟩⟩⟩
    · rw [nI_clamp (by omega)] at e11
      rw [e11, e9]
      have e : (((p1 >>> (((8 : Int32) * dn (j + 1)).toInt64 &&& 63)).toInt32) &&& (255 : Int32)) = byX p1 j := byX_M p1 j
      rw [e]
      exact hw.step hj
    · show (x13 + 1).toNatClampNeg < (dn (j + 1) + 1).toNatClampNeg
      rw [e13, dn_p, dn_1, dn_1, nI_clamp (by omega), nI_clamp (by omega)]; omega
theorem s_write : S_write := by
  intro p0 p1 sz fb tz ft h
  have h0 := h
  obtain ⟨n, hn, rfl, rfl, hb⟩ := h
  unfold wp_X10_write
  refine ⟨fun c => mw_bad (Or.inl c) ⟨rfl, h0⟩, fun c => ⟨fun c8 => ?_, fun c8 => mw_bad (Or.inr c8) ⟨rfl, h0⟩⟩⟩
  obtain ⟨q, hq, rfl⟩ : ∃ q : Nat, (1 ≤ q ∧ q ≤ 8) ∧ p0 = nI q := by
    have hnn : ¬ p0 < 0 := fun h => c (by
      rw [Int32.lt_iff_toInt_lt] at h ⊢
      have : (0 : Int32).toInt = 0 := by decide
      have : (1 : Int32).toInt = 1 := by decide
      omega)
    obtain ⟨q, hq, rfl⟩ := nI_of hnn
    refine ⟨q, ⟨?_, (nI_leI hq (by decide)).mp c8⟩, rfl⟩
    apply Nat.lt_of_not_le
    intro h
    exact c (nI_lt (a := q) (b := 1) (by omega) (by decide))
  obtain ⟨h1, h8⟩ := hq
  unfold wp_X9_hasRoomFor
  have h40 : (40 : Int32) < nI n + nI q ↔ ¬ n + q ≤ 40 := by
    rw [nI_add]
    exact (nI_ltI (a := 40) (b := n + q) (by decide) (by omega)).trans Nat.not_le.symm
  refine ⟨fun cf => ⟨fun z => absurd rfl z, fun _ => mw_full h1 h8 hn (h40.mp cf) ⟨rfl, h0⟩⟩, fun cf => ⟨fun _ x5 e5 => ?_, fun z => absurd z (by decide)⟩⟩
  have hf : n + q ≤ 40 := Classical.byContradiction fun z => cf (h40.mpr z)
  rw [dn_of q h1] at e5
  subst e5
  refine ⟨fun x v g => ∃ j : Nat, j ≤ q ∧ x = dn j ∧ v = nI (n + (q - j)) ∧ Wr p1 n q j fb g, fun x _ _ => (x + 1).toNatClampNeg, ⟨q, Nat.le_refl q, rfl, by rw [Nat.sub_self, Nat.add_zero], fun i _ => rfl, fun t ht => by omega⟩, ?_⟩
  rintro x v g ⟨j, hj, rfl, rfl, hw⟩
  cases j with
  | zero =>
    refine ⟨fun _ => ?_, fun c => absurd dn_0 c⟩
    unfold wp_X9_size
    refine mw_ok h1 h8 hf (fun g2 hw2 => ⟨rfl, n + q, hf, rfl, rfl, fun i hi => ?_⟩)
    by_cases ci : i < n
    · rw [hw.1 i ci, hw2.1 i ci]; exact hb i ci
    · obtain ⟨t, rfl⟩ : ∃ t, i = n + t := ⟨i - n, by omega⟩
      rw [hw.2 t (by omega), hw2.2 t (by omega)]
      exact ⟨rfl, byX_lt _ _⟩
  | succ j =>
    refine ⟨fun c => absurd c (dn_s (by omega)), fun _ => ?_⟩
    unfold wp_X9_append
    refine ⟨fun c40 => ?_, fun _ => put_in (by omega) (by decide) (fun x3 e3 x13 e13 => ⟨⟨j, by omega, by rw [e13, dn_p], by rw [e3, nI_1]; congr 1; omega, hw.step hj⟩, ?_⟩)⟩
    · have := (nI_leI (a := 40) (b := n + (q - (j + 1))) (by decide) (by omega)).mp c40
      omega
    · show (x13 + 1).toNatClampNeg < (dn (j + 1) + 1).toNatClampNeg
      rw [e13, dn_p, dn_1, dn_1, nI_clamp (by omega), nI_clamp (by omega)]; omega
/-- a floor of the building, both ways -/
theorem floor_cases {n : Nat} (hn : 1 ≤ n) (hn6 : n ≤ 6) (p : Int32) : (∃ f : Nat, f < n ∧ p = nI f) ∨ (p < 0 ∨ nI n ≤ p) := by
  by_cases c : p < 0
  · exact Or.inr (Or.inl c)
  · obtain ⟨j, hj, rfl⟩ := nI_of c
    by_cases c2 : j < n
    · exact Or.inl ⟨j, c2, rfl⟩
    · exact Or.inr (Or.inr (nI_le (by omega) hj))
theorem hf_in {n f : Nat} {P : Int32 → Prop} (hn6 : n ≤ 6) (hf : f < n) (hP : P 1) : wp_X3_hasFloor (nI f) (nI n) P := by
  unfold wp_X3_hasFloor
  exact ⟨fun c => absurd c (nI_pos (by omega)), fun _ => ⟨fun c => absurd c (nI_ge hf (by omega)), fun _ => hP⟩⟩
theorem hf_out {n : Nat} {p : Int32} {P : Int32 → Prop} (h : p < 0 ∨ nI n ≤ p) (hP : P 0) : wp_X3_hasFloor p (nI n) P := by
  unfold wp_X3_hasFloor
  refine ⟨fun _ => hP, fun c => ⟨fun _ => hP, fun c2 => ?_⟩⟩
  rcases h with h | h
  · exact absurd h c
  · exact absurd h c2
theorem fl_64 {n : Nat} (hn : 1 ≤ n) (hn6 : n ≤ 6) (p : Int32) : ((0 : Int64) ≤ p.toInt64 ∧ p.toInt64 ≤ (nI n - (1 : Int32)).toInt64) ↔ ¬ (p < 0 ∨ nI n ≤ p) := by
  obtain ⟨n, rfl⟩ : ∃ k, n = k + 1 := ⟨n - 1, by omega⟩
  rw [nI_pred, Int64.le_iff_toInt_le, Int64.le_iff_toInt_le, i64_of, i64_of, nI_toInt (by omega), Int32.lt_iff_toInt_lt, Int32.le_iff_toInt_le, nI_toInt (by omega), show (0 : Int64).toInt = 0 from by decide, show (0 : Int32).toInt = 0 from by decide]
  omega
theorem nf_in {n f : Nat} {P : Int32 → Prop} (hn6 : n ≤ 6) (hf : f < n) (hP : P 0) : wp_X11_noFloor (nI f) (nI n) P := by
  unfold wp_X11_noFloor
  refine in_spec (fun _ => ⟨fun _ => hP, fun c => absurd c (by decide)⟩) (fun c => absurd ((fl_64 (by omega) hn6 _).mpr (fun z => ?_)) c)
  rcases z with z | z
  · exact absurd z (nI_pos (by omega))
  · exact absurd z (nI_ge hf (by omega))
theorem nf_out {n : Nat} {p : Int32} {P : Int32 → Prop} (hn : 1 ≤ n) (hn6 : n ≤ 6) (h : p < 0 ∨ nI n ≤ p) (hP : P 1) : wp_X11_noFloor p (nI n) P := by
  unfold wp_X11_noFloor
  exact in_spec (fun c => absurd h ((fl_64 hn hn6 p).mp c)) (fun _ => ⟨fun c => absurd rfl c, fun _ => hP⟩)
