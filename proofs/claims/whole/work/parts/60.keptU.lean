/-! PURE ROWS: no such place, nothing kept -/
theorem in_01 {p0 : Int32} (hu : ¬ p0 < 0 → ¬ p0 < 2) {P : Int32 → Prop} (hP : P 0) : wp_X11_in p0.toInt64 0 1 P := by
  have hb : p0 < 0 ∨ nI 2 ≤ p0 := by
    by_cases c : p0 < 0
    · exact Or.inl c
    · have h := hu c
      refine Or.inr ?_
      rw [Int32.lt_iff_toInt_lt, show (2 : Int32).toInt = 2 from by decide] at h
      rw [Int32.le_iff_toInt_le, show (nI 2).toInt = 2 from by decide]
      omega
  exact in_spec (fun z => absurd hb ((in_0n (m := 2) (by decide) _ 1 (by decide)).mp z)) (fun _ => hP)
theorem s_keepU : S_keepU := by
  intro p0 _ _ _ _ _ _ _ _ _ _ _ _ _ _ _ _ _ _ _ _ _ _ _ _ _ _ _ fk hD k0 k1 hK hu
  unfold wp_X10_keepU wp_X11_keep
  exact ⟨fun _ => in_01 hu ⟨fun c => absurd rfl c, fun _ => ⟨rfl, hK⟩⟩, fun _ => in_01 hu ⟨fun c => absurd rfl c, fun _ => ⟨rfl, hK⟩⟩⟩
theorem s_againU : S_againU := by
  intro p0 _ _ _ _ _ _ _ _ _ _ _ _ _ _ _ _ _ _ _ _ _ _ _ _ _ _ _ fk hD k0 k1 hK hu
  unfold wp_X10_againU wp_X11_again
  exact ⟨fun _ => in_01 hu ⟨fun c => absurd rfl c, fun _ => ⟨rfl, hD⟩⟩, fun _ => in_01 hu ⟨fun c => absurd rfl c, fun _ => ⟨rfl, hD⟩⟩⟩
theorem in_011 {j : Nat} (hj : j < 2) {P : Int32 → Prop} (hP : P 1) : wp_X11_in (nI j).toInt64 0 1 P :=
  in_spec (fun _ => hP) (fun z => absurd ((in_0n (m := 2) (by decide) _ 1 (by decide)).mpr (fun y => y.elim (fun y => nI_pos (by omega) y) (fun y => nI_ge hj (by decide) y))) z)
theorem s_againN0 : S_againN0 := by
  intro p0 _ _ _ _ _ _ ik _ _ _ _ _ _ _ _ _ _ _ _ _ _ _ _ _ _ _ _ fk hD k0 k1 hK hk hp
  subst hk
  subst hp
  have hi : ik 0 = 0 := hK.2.2.2.1
  unfold wp_X10_againN wp_X11_again
  refine ⟨fun c => absurd c (by decide), fun _ => ⟨fun _ => ⟨vp_in_nI (n := 0) (by decide) (by decide), in_011 (j := 0) (by decide) ⟨fun _ => ⟨vp_in_nI (n := 0) (by decide) (by decide), fun c => absurd hi c, fun _ => ⟨rfl, hD⟩⟩, fun c => absurd c (by decide)⟩⟩, fun c => absurd (by decide) c⟩⟩
theorem s_againN1 : S_againN1 := by
  intro p0 _ _ _ _ _ _ ik _ _ _ _ _ _ _ _ _ _ _ _ _ _ _ _ _ _ _ _ fk hD k0 k1 hK hk hp
  subst hk
  subst hp
  have hi : ik 1 = 0 := hK.2.2.2.2
  unfold wp_X10_againN wp_X11_again
  refine ⟨fun c => absurd c (by decide), fun _ => ⟨fun _ => ⟨vp_in_nI (n := 1) (by decide) (by decide), in_011 (j := 1) (by decide) ⟨fun _ => ⟨vp_in_nI (n := 1) (by decide) (by decide), fun c => absurd hi c, fun _ => ⟨rfl, hD⟩⟩, fun c => absurd c (by decide)⟩⟩, fun c => absurd (by decide) c⟩⟩
