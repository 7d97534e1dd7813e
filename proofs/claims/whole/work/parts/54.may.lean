/-! PURE ROWS: may, wants -/
theorem s_may : S_may := by
  intro p0 p1 lst lf lsa lwa mf mat mw _ _ _ _ _ _ _ _ _ _ _ _ _ _ _ _ _ _ hD hz
  obtain ⟨n, r, t, h, w, b, HF, HO, HI, s, ⟨hH, hS, hT, -, hL, rfl, -, -, hM, hat, -⟩, -⟩ := hD
  obtain ⟨rfl, -, -, -, -, -, hwa, hsa⟩ := hL
  obtain ⟨rfl, -, -, hmw, -⟩ := hM
  obtain ⟨hn2, hn6, hr, ht, hwb⟩ := hH
  have hg : StG n r b s := ⟨hn6, hS⟩
  unfold wp_X10_may wp_X11_may
  rcases floor_cases (by omega) hn6 p0 with ⟨f, hf, rfl⟩ | hb
  · refine hf_in hn6 hf ⟨fun _ => ⟨fun c => ?_, fun c => ?_⟩, fun c => absurd c (by decide)⟩
    · unfold wp_X5_mayEnter
      refine mayEnter_enc (t := t) (w := w) hg hr hf (hsa f (by omega)) ?_
      refine nf_in hn6 hf ⟨fun _ => mayOf_spec hg hr (by omega) hat (fun k hk => ⟨hmw k hk, (hwb k hk).1⟩) ?_, fun c => absurd rfl c⟩
      rw [if_pos c]
    · unfold wp_X5_mayLeave
      refine mayLeave_enc (t := t) (b := b) hg hr (by omega) (hwa f (by omega)) ?_
      refine nf_in hn6 hf ⟨fun _ => mayOf_spec hg hr (by omega) hat (fun k hk => ⟨hmw k hk, (hwb k hk).1⟩) ?_, fun c => absurd rfl c⟩
      rw [if_neg c]
  · exact hf_out hb ⟨fun c => absurd rfl c, fun _ => nf_out (by omega) hn6 hb ⟨fun c => absurd c (by decide), fun _ => rfl⟩⟩
/-- a person, both ways -/
theorem person_cases {n r t : Nat} {b : Nat → Nat} {s : List Nat} (hS : StOk n r b s) (hT : StrOk t s) (hn : n ≤ 6) (hr : r ≤ 4) (ht : t ≤ 2) (p : Int32) : (∃ k : Nat, k < 6 ∧ p = nI k ∧ pz s k ≠ 8 ∧ (k < 4 → k < r) ∧ (4 ≤ k → k - 4 < t)) ∨ ((p < 0 ∨ ∃ k : Nat, k < 2 ^ 31 ∧ p = nI k ∧ (6 ≤ k ∨ pz s k = 8) ∧ (k < 4 → r ≤ k) ∧ (4 ≤ k → t ≤ k - 4))) := by
  by_cases c : p < 0
  · exact Or.inr (Or.inl c)
  · obtain ⟨k, hk, rfl⟩ := nI_of c
    have hz := hS.pz hn
    by_cases c6 : k < 6
    · by_cases c8 : pz s k = 8
      · refine Or.inr (Or.inr ⟨k, hk, rfl, Or.inr c8, fun h4 => ?_, fun h4 => ?_⟩)
        · apply Nat.le_of_not_lt
          intro z
          rcases hS.2.1 k h4 z with ⟨q1, q2⟩ | q | q <;> omega
        · have := hT (k - 4) (by omega)
          rw [show 4 + (k - 4) = k by omega] at this
          exact this.mp c8
      · refine Or.inl ⟨k, c6, rfl, c8, fun h4 => ?_, fun h4 => ?_⟩
        · apply Nat.lt_of_not_le
          intro z
          exact c8 (hS.2.2.1 k h4 z)
        · apply Nat.lt_of_not_le
          intro z
          have := hT (k - 4) (by omega)
          rw [show 4 + (k - 4) = k by omega] at this
          exact c8 (this.mpr z)
    · exact Or.inr (Or.inr ⟨k, hk, rfl, Or.inl (by omega), fun h4 => by omega, fun h4 => by omega⟩)
theorem hp_in {r t k : Nat} {P : Int32 → Prop} (hr : r ≤ 4) (ht : t ≤ 2) (hk : k < 6) (h1 : k < 4 → k < r) (h2 : 4 ≤ k → k - 4 < t) (hP : P 1) : wp_X3_hasPerson (nI k) (nI r) (nI t) P := by
  unfold wp_X3_hasPerson
  have e4 : (4 : Int32) + nI t = nI (4 + t) := nI_add 4 t
  rw [e4]
  refine ⟨fun c => absurd c (nI_pos (by omega)), fun _ => ⟨fun _ => hP, fun c => ?_⟩⟩
  have cr : ¬ k < r := fun z => c (nI_lt z (by omega))
  have c4 : ¬ k < 4 := fun z => cr (h1 z)
  exact ⟨fun z => absurd z (nI_nlt (b := 4) (by omega) (by omega)), fun _ => ⟨fun z => absurd z (nI_ge (by omega) (by omega)), fun _ => hP⟩⟩
theorem hp_out {r t : Nat} {p : Int32} {P : Int32 → Prop} (hr : r ≤ 4) (ht : t ≤ 2) (h : p < 0 ∨ ∃ k : Nat, k < 2 ^ 31 ∧ p = nI k ∧ (k < 4 → r ≤ k) ∧ (4 ≤ k → t ≤ k - 4)) (hP : P 0) : wp_X3_hasPerson p (nI r) (nI t) P := by
  unfold wp_X3_hasPerson
  have e4 : (4 : Int32) + nI t = nI (4 + t) := nI_add 4 t
  rw [e4]
  rcases h with h | ⟨k, hk, rfl, h1, h2⟩
  · refine ⟨fun _ => ⟨fun _ => hP, fun c => absurd ?_ c⟩, fun c => absurd h c⟩
    rw [Int32.lt_iff_toInt_lt] at h ⊢
    rw [show (0 : Int32).toInt = 0 from by decide] at h
    rw [show (4 : Int32).toInt = 4 from by decide]
    omega
  · refine ⟨fun c => absurd c (nI_pos hk), fun _ => ⟨fun c => ?_, fun _ => ⟨fun _ => hP, fun c => ⟨fun _ => hP, fun z => absurd ?_ z⟩⟩⟩⟩
    · have c := (nI_ltI hk (by omega)).mp c
      have := h1 (by omega)
      omega
    · have c4 : ¬ k < 4 := fun z => c (nI_lt (b := 4) z (by decide))
      have := h2 (by omega)
      exact nI_le (by omega) hk
theorem no_in {s : List Nat} {k : Nat} {mat : Nat → Int32} {P : Int32 → Prop} (hat : ∀ k, k < 6 → mat k = nI (pz s k)) (h9 : pz s k < 9) (hk : k < 6) (h8 : pz s k ≠ 8) (hP : P 0) : wp_X11_noOne (nI k) mat P := by
  unfold wp_X11_noOne
  refine in_spec (fun _ => ⟨fun c => absurd c (by decide), fun _ => ⟨vp_in_nI hk (by decide), fun _ => hP, fun c => ?_⟩⟩) (fun z => absurd ?_ z)
  · rw [nI_clamp (by omega), hat k hk] at c
    exact absurd ((nI_eq (b := 8) (by omega) (by decide)).mp c) h8
  · rw [Int64.le_iff_toInt_le, Int64.le_iff_toInt_le, i64_of, nI_toInt (by omega), show (0 : Int64).toInt = 0 from by decide, show (5 : Int64).toInt = 5 from by decide]
    omega
theorem no_out {s : List Nat} {p : Int32} {mat : Nat → Int32} {P : Int32 → Prop} (hat : ∀ k, k < 6 → mat k = nI (pz s k)) (h : p < 0 ∨ ∃ k : Nat, k < 2 ^ 31 ∧ p = nI k ∧ (6 ≤ k ∨ pz s k = 8)) (hP : P 1) : wp_X11_noOne p mat P := by
  unfold wp_X11_noOne
  refine in_spec (fun z => ⟨fun c => absurd c (by decide), fun _ => ?_⟩) (fun _ => ⟨fun _ => hP, fun c => absurd rfl c⟩)
  rw [Int64.le_iff_toInt_le, Int64.le_iff_toInt_le, i64_of, show (0 : Int64).toInt = 0 from by decide, show (5 : Int64).toInt = 5 from by decide] at z
  rcases h with h | ⟨k, hk, rfl, h6⟩
  · rw [Int32.lt_iff_toInt_lt, show (0 : Int32).toInt = 0 from by decide] at h
    omega
  · rw [nI_toInt hk] at z
    have hk6 : k < 6 := by omega
    have h8 : pz s k = 8 := h6.resolve_left (by omega)
    refine ⟨vp_in_nI hk6 (by decide), fun c => absurd ?_ c, fun _ => hP⟩
    rw [nI_clamp (by omega), hat k hk6, h8]; rfl
