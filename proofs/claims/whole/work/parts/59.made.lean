/-! PURE ROWS: made -/
theorem in_0n {m : Nat} (hm : m < 2 ^ 31) (p : Int32) (c : Int64) (hc : c.toInt = (m : Int) - 1) : ((0 : Int64) ≤ p.toInt64 ∧ p.toInt64 ≤ c) ↔ ¬ (p < 0 ∨ nI m ≤ p) := by
  rw [Int64.le_iff_toInt_le, Int64.le_iff_toInt_le, i64_of, hc, Int32.lt_iff_toInt_lt, Int32.le_iff_toInt_le, nI_toInt hm, show (0 : Int64).toInt = 0 from by decide, show (0 : Int32).toInt = 0 from by decide]
  omega
theorem cases_n {m : Nat} (hm : m < 2 ^ 31) (p : Int32) : (∃ f : Nat, f < m ∧ p = nI f) ∨ (p < 0 ∨ nI m ≤ p) := by
  by_cases c : p < 0
  · exact Or.inr (Or.inl c)
  · obtain ⟨j, hj, rfl⟩ := nI_of c
    by_cases c2 : j < m
    · exact Or.inl ⟨j, c2, rfl⟩
    · exact Or.inr (Or.inr (nI_le (by omega) hj))
theorem ix96 : ∀ i, i < 24 → ∀ q, q < 3 → (4 : Int32) * nI i + nI q = nI (4 * i + q) := by decide +kernel
theorem s_made : S_made := by
  intro p0 p1 lsz row mh mmade _ _ _ _ _ _ _ _ _ _ _ _ _ _ _ _ _ _ _ _ _ hD
  obtain ⟨n, r, t, h, w, b, HF, HO, HI, s, ⟨hH, hS, hSt, hR, hL, -, rfl, hrow, hM, hat, rfl, -, -, hmade⟩, -⟩ := hD
  obtain ⟨hn2, hn6, hr, ht, hwb⟩ := hH
  have h24 := hR.1
  have hlt := hR.lt
  have eh : ((nI h - (1 : Int32)).toInt64).toInt = (h : Int) - 1 := by
    rw [i64_of]
    exact pk_sub_toInt (by omega) (by decide)
  unfold wp_X10_made wp_X11_made wp_X2_tells
  rcases cases_n (m := 3) (by decide) p1 with ⟨q, hq, rfl⟩ | hb
  · have i1 : ∀ {P : Int32 → Prop}, P 1 → wp_X11_in (nI q).toInt64 0 2 P := fun hP => in_spec (fun _ => hP) (fun z => absurd ((in_0n (m := 3) (by decide) _ 2 (by decide)).mpr (fun y => y.elim (fun y => nI_pos (by omega) y) (fun y => nI_ge hq (by decide) y))) z)
    refine ⟨fun c => absurd c (nI_pos (by omega)), fun _ => ⟨fun c => absurd c (nI_nlt (a := 2) (by omega) (by decide)), fun _ => ⟨fun _ => ?_, fun c => absurd c (by decide)⟩⟩⟩
    rcases cases_n (m := h) (by omega) p0 with ⟨i, hi, rfl⟩ | hb0
    · have hcl : (nI i).toNatClampNeg = i := nI_clamp (by omega)
      refine ⟨fun c => absurd c (nI_pos (by omega)), fun _ => ?_⟩
      unfold wp_X5_size
      refine ⟨fun c => absurd c (nI_ge hi (by omega)), fun _ => ?_⟩
      unfold wp_X5_haltAt
      refine at_in (by omega) (by decide) ?_
      rw [hrow i hi]
      obtain ⟨a1, a2, a3⟩ := hlt i hi
      obtain ⟨m0, m1, m2, -⟩ := hmade i hi
      have fin : ∀ v : Int32, v = mmade (4 * i + q) → wp_X11_in (nI q).toInt64 0 2 (fun r_1 => ((¬ r_1 = 0 → (wp_X11_in ((nI i).toInt64) (0 : Int64) ((nI h - (1 : Int32)).toInt64) (fun r_3 => ((r_3 = 0 → v = (-9 : Int32)) ∧ (¬ r_3 = 0 → (vp_in (((4 : Int32) * nI i) + nI q) 96 ∧ v = (mmade (((4 : Int32) * nI i) + nI q).toNatClampNeg))))))) ∧ (r_1 = 0 → v = (-2 : Int32)))) := by
        intro v hv
        refine i1 ⟨fun _ => in_spec (fun _ => ⟨fun c => absurd c (by decide), fun _ => ?_⟩) (fun z => absurd ((in_0n (m := h) (by omega) _ _ eh).mpr (fun y => y.elim (fun y => nI_pos (by omega) y) (fun y => nI_ge hi (by omega) y))) z), fun c => absurd c (by decide)⟩
        rw [ix96 i (by omega) q hq]
        exact ⟨vp_in_nI (by omega) (by decide), by rw [nI_clamp (by omega)]; exact hv⟩
      rcases (show q = 0 ∨ q = 1 ∨ q = 2 by omega) with rfl | rfl | rfl
      · exact told0 (by omega) a2 a3 (fin _ m0.symm)
      · exact told1 (by omega) a2 a3 (fin _ m1.symm)
      · exact told2 (by omega) a2 a3 (fin _ m2.symm)
    · have out : wp_X11_in (nI q).toInt64 0 2 (fun r_1 => ((¬ r_1 = 0 → (wp_X11_in (p0.toInt64) (0 : Int64) ((nI h - (1 : Int32)).toInt64) (fun r_3 => ((r_3 = 0 → (-9 : Int32) = (-9 : Int32)) ∧ (¬ r_3 = 0 → (vp_in (((4 : Int32) * p0) + nI q) 96 ∧ (-9 : Int32) = (mmade (((4 : Int32) * p0) + nI q).toNatClampNeg))))))) ∧ (r_1 = 0 → (-9 : Int32) = (-2 : Int32)))) :=
        i1 ⟨fun _ => in_spec (fun z => absurd hb0 ((in_0n (m := h) (by omega) _ _ eh).mp z)) (fun _ => ⟨fun _ => rfl, fun c => absurd rfl c⟩), fun c => absurd c (by decide)⟩
      refine ⟨fun _ => out, fun c => ?_⟩
      unfold wp_X5_size
      exact ⟨fun _ => out, fun c2 => hb0.elim (fun y => absurd y c) (fun y => absurd y c2)⟩
  · have out : ∀ {P : Int32 → Prop}, P 0 → wp_X11_in p1.toInt64 0 2 P := fun hP => in_spec (fun z => absurd hb ((in_0n (m := 3) (by decide) _ 2 (by decide)).mp z)) (fun _ => hP)
    have h2 : p1 < 0 ∨ (2 : Int32) < p1 := hb.imp id (fun y => by
      rw [Int32.le_iff_toInt_le, show (nI 3).toInt = 3 from by decide] at y
      rw [Int32.lt_iff_toInt_lt, show (2 : Int32).toInt = 2 from by decide]
      omega)
    have fin := out (P := fun r_1 => ((¬ r_1 = 0 → (wp_X11_in (p0.toInt64) (0 : Int64) ((nI h - (1 : Int32)).toInt64) (fun r_3 => ((r_3 = 0 → (-2 : Int32) = (-9 : Int32)) ∧ (¬ r_3 = 0 → (vp_in (((4 : Int32) * p0) + p1) 96 ∧ (-2 : Int32) = (mmade (((4 : Int32) * p0) + p1).toNatClampNeg))))))) ∧ (r_1 = 0 → (-2 : Int32) = (-2 : Int32)))) ⟨fun c => absurd rfl c, fun _ => rfl⟩
    exact ⟨fun _ => ⟨fun c => absurd rfl c, fun _ => fin⟩, fun c1 => ⟨fun _ => ⟨fun c => absurd rfl c, fun _ => fin⟩, fun c2 => h2.elim (fun y => absurd y c1) (fun y => absurd y c2)⟩⟩
