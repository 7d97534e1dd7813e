/-! PURE ROWS: see -/
theorem RD.fl {lf lr lt lst lsz : Int32} {lw ls lwa lsa lrow : Nat → Int32} {sea ssz : Int32} {sst scf shl : Nat → Int32} {mf mr mt mho mfl mh : Int32} {mat mw ms mmade : Nat → Int32} (h : RD lf lr lt lst lsz lw ls lwa lsa lrow sea ssz sst scf shl mf mr mt mho mfl mh mat mw ms mmade) : ∃ n : Nat, 2 ≤ n ∧ n ≤ 6 ∧ lf = nI n ∧ mf = nI n := by
  obtain ⟨n, r, t, h, w, b, HF, HO, HI, s, ⟨hH, -, -, -, hL, -, -, -, hM, -⟩, -⟩ := h
  exact ⟨n, hH.1, hH.2.1, hL.1, hM.1⟩
theorem num_cases {m : Nat} (hm : m < 2 ^ 31) (p : Int32) : (∃ q : Nat, 1 ≤ q ∧ q ≤ m ∧ p = nI q) ∨ p < 1 ∨ ¬ p ≤ nI m := by
  by_cases c : p < 1
  · exact Or.inr (Or.inl c)
  · by_cases c8 : p ≤ nI m
    · have hnn : ¬ p < 0 := fun h => c (by
        rw [Int32.lt_iff_toInt_lt] at h ⊢
        have : (0 : Int32).toInt = 0 := by decide
        have : (1 : Int32).toInt = 1 := by decide
        omega)
      obtain ⟨q, hq, rfl⟩ := nI_of hnn
      refine Or.inl ⟨q, ?_, (nI_leI hq hm).mp c8, rfl⟩
      apply Nat.lt_of_not_le
      intro h
      exact c (nI_lt (a := q) (b := 1) (by omega) (by decide))
    · exact Or.inr (Or.inr c8)
theorem in_num {m q : Nat} {a c : Int64} {P : Int32 → Prop} (ha : a.toInt = 1) (hc : c.toInt = m) (hq : q < 2 ^ 31) (h1 : 1 ≤ q) (hm : q ≤ m) (hP : P 1) : wp_X11_in (nI q).toInt64 a c P := by
  refine in_spec (fun _ => hP) (fun z => absurd ?_ z)
  rw [Int64.le_iff_toInt_le, Int64.le_iff_toInt_le, i64_of, nI_toInt hq, ha, hc]
  omega
theorem in_out {m : Nat} {p : Int32} {a c : Int64} {P : Int32 → Prop} (ha : a.toInt = 1) (hc : c.toInt = m) (hm : m < 2 ^ 31) (h : p < 1 ∨ ¬ p ≤ nI m) (hP : P 0) : wp_X11_in p.toInt64 a c P := by
  refine in_spec (fun z => ?_) (fun _ => hP)
  exfalso
  rw [Int64.le_iff_toInt_le, Int64.le_iff_toInt_le, i64_of, ha, hc] at z
  rw [Int32.lt_iff_toInt_lt, Int32.le_iff_toInt_le, nI_toInt hm, show (1 : Int32).toInt = 1 from by decide] at h
  omega
theorem s_see : S_see := by
  intro p0 p1 lf sz sf sn mf ms msf msn _ _ _ _ _ _ _ _ _ _ _ _ _ _ _ _ _ _ _ _ _ _ _ hD hE
  obtain ⟨n, hn2, hn6, rfl, rfl⟩ := hD.fl
  have hE0 := hE
  obtain ⟨k, SF, SN, hk, rfl, rfl, hi⟩ := hE
  unfold wp_X10_see
  rcases floor_cases (by omega) hn6 p0 with ⟨f, hf, rfl⟩ | hb
  · refine hf_in hn6 hf ⟨fun _ => ?_, fun c => absurd c (by decide)⟩
    rcases num_cases (m := 6) (by decide) p1 with ⟨q, h1, h6, rfl⟩ | hb
    · have hR : ∀ {P : Int32 → Int32 → Int32 → (Nat → Int32) → (Nat → Int32) → Prop}, (k = 8 → P (-4) 0 (nI k) msf msn) → (¬ k = 8 → P (nI (k + 1)) 0 (nI (k + 1)) (upd msf k (nI f)) (upd msn k (nI q))) → wp_X11_see (nI f) (nI q) (nI n) (nI k) msf msn P := by
        intro P c8 c9
        unfold wp_X11_see
        refine nf_in hn6 hf ⟨fun _ => in_num (m := 6) (by decide) (by decide) (by omega) h1 h6 ⟨fun _ => ⟨fun c => ?_, fun c => ?_⟩, fun c => absurd c (by decide)⟩, fun c => absurd rfl c⟩
        · have : ¬ k = 8 := fun z => c (by rw [z]; rfl)
          refine ⟨vp_in_nI (by omega) (by decide), fun f7 e7 => ⟨vp_in_nI (by omega) (by decide), fun f9 e9 x10 e10 => ?_⟩⟩
          rw [nI_clamp (by omega)] at e7 e9
          rw [nI_1] at e10
          rw [e7, e9, e10]
          exact c9 this
        · exact c8 ((nI_eq (b := 8) (by omega) (by decide)).mp c)
      refine ⟨fun c => absurd c (nI_nlt (b := 1) h1 (by omega)), fun _ => ⟨fun _ => ?_, fun c => absurd (nI_le (b := 6) h6 (by decide)) c⟩⟩
      unfold wp_X7_isFull
      refine ⟨fun c => ⟨fun _ => ?_, fun z => absurd rfl z⟩, fun c => ⟨fun z => absurd z (by decide), fun _ => ?_⟩⟩
      · have hk8 : k < 8 := (nI_ltI (b := 8) (by omega) (by decide)).mp c
        unfold wp_X7_add
        refine ⟨fun z => absurd z (nI_ge (b := 8) hk8 (by decide)), fun _ => put_in hk8 (by decide) (put_in hk8 (by decide) (fun x4 e4 => ?_))⟩
        unfold wp_X7_size
        rw [nI_1] at e4
        subst e4
        refine hR (fun z => absurd z (by omega)) (fun _ => ⟨rfl, k + 1, fun i => if i = k then f else SF i, fun i => if i = k then q else SN i, hk8, rfl, rfl, fun i hik => ?_⟩)
        by_cases c : i = k
        · subst c
          simp only [if_true, upd_eq]
          exact ⟨by omega, h1, h6, trivial, trivial, trivial, trivial⟩
        · simp only [c, if_false, upd_ne _ _ c]
          exact hi i (by omega)
      · have hk8 : k = 8 := by
          have : ¬ k < 8 := fun z => c (nI_lt (b := 8) z (by decide))
          omega
        exact hR (fun _ => ⟨rfl, hE0⟩) (fun z => absurd hk8 z)
    · have hR : wp_X11_see (nI f) p1 (nI n) (nI k) msf msn (fun r2 z0 z1 z2 z3 => (-2 : Int32) = r2 ∧ RE (nI k) sf sn z1 z2 z3) := by
        unfold wp_X11_see
        exact nf_in hn6 hf ⟨fun _ => in_out (m := 6) (by decide) (by decide) (by decide) hb ⟨fun c => absurd rfl c, fun _ => ⟨rfl, hE0⟩⟩, fun c => absurd rfl c⟩
      refine ⟨fun _ => hR, fun c => ⟨fun c6 => ?_, fun _ => hR⟩⟩
      rcases hb with hb | hb
      · exact absurd hb c
      · exact absurd c6 hb
  · refine hf_out hb ⟨fun c => absurd rfl c, fun _ => ?_⟩
    unfold wp_X11_see
    exact nf_out (by omega) hn6 hb ⟨fun c => absurd c (by decide), fun _ => ⟨rfl, hE0⟩⟩
