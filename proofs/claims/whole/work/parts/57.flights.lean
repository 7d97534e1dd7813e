/-! PURE ROWS: told, flights, about -/
theorem told0 {a o i : Nat} {P : Int32 → Prop} (ha : a < 6) (ho : o < 64) (hi : i < 64) (hP : P (nI a)) : wp_X2_told (nI (a * 4096 + o * 64 + i)) 0 P := by
  unfold wp_X2_told
  refine ⟨fun _ => ?_, fun c => absurd c (by decide), fun c => absurd rfl c⟩
  rw [pk_shrN (by omega) ((12 : Int32) &&& 31) 12 (by decide), show (a * 4096 + o * 64 + i) / 2 ^ 12 = a by omega]
  exact hP
theorem told1 {a o i : Nat} {P : Int32 → Prop} (ha : a < 6) (ho : o < 64) (hi : i < 64) (hP : P (nI o)) : wp_X2_told (nI (a * 4096 + o * 64 + i)) 1 P := by
  unfold wp_X2_told
  refine ⟨fun c => absurd c (by decide), fun _ => ?_, fun _ c => absurd rfl c⟩
  rw [shA (by omega) ((6 : Int32) &&& 31) 6 (by decide) 63 6 (by decide), show (a * 4096 + o * 64 + i) / 2 ^ 6 % 2 ^ 6 = o by omega]
  exact hP
theorem told2 {a o i : Nat} {P : Int32 → Prop} (ha : a < 6) (ho : o < 64) (hi : i < 64) (hP : P (nI i)) : wp_X2_told (nI (a * 4096 + o * 64 + i)) 2 P := by
  unfold wp_X2_told
  refine ⟨fun c => absurd c (by decide), fun c => absurd c (by decide), fun _ _ => ?_⟩
  rw [anA (by omega) 63 6 (by decide), show (a * 4096 + o * 64 + i) % 2 ^ 6 = i by omega]
  exact hP
theorem and_lt64 {x m : Nat} (h : x &&& m = x) (hm : m < 64) : x < 64 := by
  rw [← h]
  exact Nat.lt_of_le_of_lt Nat.and_le_right hm
theorem RowOk.lt {n r t h : Nat} {w b HF HO HI : Nat → Nat} {s : List Nat} (hR : RowOk n r t h w b HF HO HI s) (i : Nat) (hi : i < h) : HF i < n ∧ HO i < 64 ∧ HI i < 64 := by
  obtain ⟨-, S, -, hS⟩ := hR
  obtain ⟨a, o, q, -⟩ := hS i hi
  exact ⟨a, and_lt64 o (outM_lt _ _ _), and_lt64 q (inM_lt _ _)⟩
theorem fl_at {n h i : Nat} {HF HO HI : Nat → Nat} {row : Nat → Int32} {P : Int32 → Prop} (hn : n ≤ 6) (h24 : h ≤ 24) (hrow : ∀ i, i < h → row i = nI (HF i * 4096 + HO i * 64 + HI i)) (hlt : ∀ i, i < h → HF i < n ∧ HO i < 64 ∧ HI i < 64) (hi : i < h) (hP : P (nI (HF i))) : wp_X5_haltAt (nI i) row (fun q => wp_X2_floorOf q (fun r => P r)) := by
  unfold wp_X5_haltAt
  refine at_in (by omega) (by decide) ?_
  rw [hrow i hi]
  unfold wp_X2_floorOf
  obtain ⟨a, o, q⟩ := hlt i hi
  exact told0 (by omega) o q hP
theorem absD : ∀ a, a < 6 → ∀ c, c < 6 → (if 0 ≤ (nI a - nI c) then (nI a - nI c) else 0 - (nI a - nI c)) = nI (if c < a then a - c else c - a) := by decide +kernel
theorem flN_le {n h : Nat} {HF : Nat → Nat} (hn : n ≤ 6) (hlt : ∀ i, i < h → HF i < n) : ∀ i, i ≤ h → flN HF i ≤ 6 * i ∧ hoN HF i < 6 := by
  intro i
  induction i with
  | zero => intro _; exact ⟨Nat.le_refl 0, (by decide : (0 : Nat) < 6)⟩
  | succ i ih =>
    intro hi
    obtain ⟨h1, h2⟩ := ih (by omega)
    have h3 := hlt i (by omega)
    refine ⟨?_, Nat.lt_of_lt_of_le h3 hn⟩
    show flN HF i + (if hoN HF i < HF i then HF i - hoN HF i else hoN HF i - HF i) ≤ 6 * (i + 1)
    split <;> omega
theorem flights_spec {n h : Nat} {HF HO HI : Nat → Nat} {row : Nat → Int32} {P : Int32 → Prop} (hn : n ≤ 6) (h24 : h ≤ 24) (hrow : ∀ i, i < h → row i = nI (HF i * 4096 + HO i * 64 + HI i)) (hlt : ∀ i, i < h → HF i < n ∧ HO i < 64 ∧ HI i < 64) (hP : P (nI (flN HF h))) : wp_X5_flights (nI h) row P := by
  unfold wp_X5_flights
  refine ⟨fun x1 x2 x3 => ∃ i : Nat, i ≤ h ∧ x3 = nI i ∧ x2 = nI (hoN HF i) ∧ x1 = nI (flN HF i), fun _ _ x3 => h - x3.toNatClampNeg, ⟨0, Nat.zero_le _, rfl, rfl, rfl⟩, ?_⟩
  rintro x1 x2 x3 ⟨i, hi, rfl, rfl, rfl⟩
  refine ⟨fun c => ?_, fun c => ?_⟩
  · have := (nI_leI (a := h) (by omega) (by omega)).mp c
    have e : i = h := by omega
    subst e
    exact hP
  · have hih : i < h := by
      apply Nat.lt_of_not_le
      intro q
      exact c (nI_le q (by omega))
    refine fl_at hn h24 hrow hlt hih (fun x7 e7 x8 e8 => ⟨⟨i + 1, hih, by rw [e8, nI_1], rfl, ?_⟩, ?_⟩)
    · have h2 := (flN_le hn (fun i hi => (hlt i hi).1) i hi).2
      have h3 := (hlt i hih).1
      rw [e7, absD _ (by omega) _ h2, nI_add]
      rfl
    · show h - x8.toNatClampNeg < h - (nI i).toNatClampNeg
      rw [e8, nI_1, nI_clamp (by omega), nI_clamp (by omega)]; omega
theorem hoist_spec {n h : Nat} {HF HO HI : Nat → Nat} {row : Nat → Int32} {P : Int32 → Prop} (hn : n ≤ 6) (h24 : h ≤ 24) (hrow : ∀ i, i < h → row i = nI (HF i * 4096 + HO i * 64 + HI i)) (hlt : ∀ i, i < h → HF i < n ∧ HO i < 64 ∧ HI i < 64) (hP : P (nI (hoN HF h))) : wp_X5_hoist (nI h) row P := by
  unfold wp_X5_hoist
  cases h with
  | zero => exact ⟨fun c => absurd rfl c, fun _ => hP⟩
  | succ h =>
    refine ⟨fun _ => ?_, fun c => absurd c (nI_ne0 (by omega) (by omega))⟩
    rw [nI_pred]
    exact fl_at hn h24 hrow hlt (by omega) hP
