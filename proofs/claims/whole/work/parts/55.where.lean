/-! PURE ROWS: wants, where -/
theorem s_wants : S_wants := by
  intro p0 lr lt lw mat mw _ _ _ _ _ _ _ _ _ _ _ _ _ _ _ _ _ _ _ _ hD
  obtain ⟨n, r, t, h, w, b, HF, HO, HI, s, ⟨hH, hS, hT, -, hL, -, -, -, hM, hat, -⟩, -⟩ := hD
  obtain ⟨-, rfl, rfl, hlw, -⟩ := hL
  obtain ⟨-, -, -, hmw, -⟩ := hM
  obtain ⟨hn2, hn6, hr, ht, hwb⟩ := hH
  unfold wp_X10_wants wp_X11_wants
  rcases person_cases hS hT hn6 hr ht p0 with ⟨k, hk, rfl, h8, h1, h2⟩ | hb
  · have h9 := ((hS.pz hn6).2 k hk).1
    refine hp_in hr ht hk h1 h2 ⟨fun _ => ⟨fun c => ?_, fun c => ?_⟩, fun c => absurd c (by decide)⟩
    · exact no_in hat h9 hk h8 ⟨fun _ => ⟨fun _ => rfl, fun z => absurd c z⟩, fun z => absurd rfl z⟩
    · have c4 : k < 4 := by
        apply Nat.lt_of_not_le
        intro z
        exact c (nI_le (a := 4) z (by omega))
      unfold wp_X3_wantOf
      refine at_in c4 (by decide) ?_
      refine no_in hat h9 hk h8 ⟨fun _ => ⟨fun z => absurd z c, fun _ => ⟨vp_in_nI c4 (by decide), ?_⟩⟩, fun z => absurd rfl z⟩
      rw [nI_clamp (by omega), hlw k (h1 c4), hmw k (h1 c4)]
  · refine hp_out hr ht (hb.imp id (fun ⟨k, a1, a2, a3, a4, a5⟩ => ⟨k, a1, a2, a4, a5⟩)) ⟨fun c => absurd rfl c, fun _ => ?_⟩
    exact no_out hat (hb.imp id (fun ⟨k, a1, a2, a3, a4, a5⟩ => ⟨k, a1, a2, a3⟩)) ⟨fun c => absurd c (by decide), fun _ => rfl⟩
theorem bit_and : ∀ A, A < 64 → ∀ k, k < 6 → ((nI A &&& ((1 : Int32) <<< (nI k &&& 31))) = 0 ↔ A.testBit k = false) := by decide +kernel
theorem inside_enc {s : List Nat} {P : Int32 → Prop} (h : PzOk s) (hP : P (nI (bits6 fun k => pz s k == 6))) : wp_X8_inside (nI (encS s)) P := by
  unfold wp_X8_inside
  refine sa_enc (t := 7) h (by decide) ?_
  have := encS_lt h
  rw [anA (by omega) 15 4 (by decide), show encS s % 2 ^ 4 = encS s % 16 from rfl, enc_and15 h, fa_or]
  have hA := bits4_lt (fun k => pz s k == 6)
  have e : bits4 (fun k => pz s k == 6) ||| (bN (plc (pz s 4) == 7) 16 + bN (plc (pz s 5) == 7) 32) = bits6 (fun k => pz s k == 6) := by
    apply tb_ext (n := 6) (or_lt4 hA _ _) (bits6_lt _)
    intro k hk
    rw [or_tb4 hA _ _ k hk, bits6_tb, bits4_tb]
    have q4 := plc_7 (pz s 4) (h.2 4 (by decide)).1 ((h.2 4 (by decide)).2 (by decide))
    have q5 := plc_7 (pz s 5) (h.2 5 (by decide)).1 ((h.2 5 (by decide)).2 (by decide))
    by_cases c : k < 4
    · simp [c, hk]
    · rcases (show k = 4 ∨ k = 5 by omega) with rfl | rfl
      · simp [q4]
      · simp [q5]
  rw [e]
  exact hP
theorem plc_out : ∀ x, x < 9 → x ≠ 7 → x ≠ 8 → x ≠ 6 → plc x = x := by decide +kernel
theorem s_where : S_where := by
  intro p0 lst lr lt ls mat _ _ _ _ _ _ _ _ _ _ _ _ _ _ _ _ _ _ _ _ hD
  obtain ⟨n, r, t, h, w, b, HF, HO, HI, s, ⟨hH, hS, hT, -, hL, rfl, -, -, hM, hat, -⟩, -⟩ := hD
  obtain ⟨-, rfl, rfl, -, hls, -⟩ := hL
  obtain ⟨hn2, hn6, hr, ht, hwb⟩ := hH
  have hz := hS.pz hn6
  unfold wp_X10_where wp_X11_where
  rcases person_cases hS hT hn6 hr ht p0 with ⟨k, hk, rfl, h8, h1, h2⟩ | hb
  · have h9 := (hz.2 k hk).1
    have hcl : (nI k).toNatClampNeg = k := nI_clamp (by omega)
    refine hp_in hr ht hk h1 h2 ⟨fun c => absurd c (by decide), fun _ => ?_⟩
    have fin : ∀ v : Int32, (pz s k = 6 → v = 100) → (pz s k = 7 → v = 200) → (pz s k ≠ 6 → pz s k ≠ 7 → v = nI (pz s k)) → wp_X11_noOne (nI k) mat (fun r_1 => ((r_1 = 0 → (vp_in (nI k) 6 ∧ ((¬ (mat (nI k).toNatClampNeg) = (6 : Int32) → (vp_in (nI k) 6 ∧ ((¬ (mat (nI k).toNatClampNeg) = (7 : Int32) → (vp_in (nI k) 6 ∧ v = (mat (nI k).toNatClampNeg))) ∧ ((mat (nI k).toNatClampNeg) = (7 : Int32) → v = (200 : Int32))))) ∧ ((mat (nI k).toNatClampNeg) = (6 : Int32) → v = (100 : Int32))))) ∧ (¬ r_1 = 0 → v = (-1 : Int32)))) := by
      intro v v6 v7 v0
      have i6 : mat k = 6 ↔ pz s k = 6 := by rw [hat k hk]; exact nI_eq (b := 6) (by omega) (by decide)
      have i7 : mat k = 7 ↔ pz s k = 7 := by rw [hat k hk]; exact nI_eq (b := 7) (by omega) (by decide)
      have hv := vp_in_nI (N := 6) hk (by decide)
      refine no_in hat h9 hk h8 ⟨fun _ => ⟨hv, fun c6 => ⟨hv, fun c7 => ⟨hv, ?_⟩, fun c7 => ?_⟩, fun c6 => ?_⟩, fun z => absurd rfl z⟩
      · rw [hcl] at c6 c7 ⊢
        rw [hat k hk]
        exact v0 (fun z => c6 (i6.mpr z)) (fun z => c7 (i7.mpr z))
      · rw [hcl] at c7
        exact v7 (i7.mp c7)
      · rw [hcl] at c6
        exact v6 (i6.mp c6)
    unfold wp_X5_placeOf
    refine inside_enc hz ⟨fun c => ?_, fun c => ?_⟩
    · rw [bit_and _ (bits6_lt _) k hk, bits6_tb] at c
      have n6 : pz s k ≠ 6 := fun z => by simp [hk, z] at c
      refine done_enc hz ⟨fun c2 => ?_, fun c2 => ?_⟩
      · rw [bit_and _ (Nat.lt_trans (bits4_lt _) (by decide)) k hk, bits4_tb] at c2
        have n7 : pz s k ≠ 7 := fun z => by
          by_cases c4 : k < 4
          · simp [c4, z] at c2
          · exact (hz.2 k hk).2 (by omega) z
        refine ⟨fun c4 => ?_, fun c4 => ?_⟩
        · have c4 : 4 ≤ k := (nI_leI (a := 4) (by decide) (by omega)).mp c4
          obtain ⟨ea, ed, ep, eq⟩ := encS_parts hz
          unfold wp_X8_placeOf
          refine ⟨fun c5 => fin _ (fun z => absurd z n6) (fun z => absurd z n7) (fun _ _ => ?_), fun c5 => fin _ (fun z => absurd z n6) (fun z => absurd z n7) (fun _ _ => ?_)⟩
          · have e5 : k = 5 := by
              have : k ≠ 4 := fun z => c5 (by rw [z]; rfl)
              omega
            subst e5
            rw [encS_E, E4_q ea ed ep eq, plc_out _ h9 n7 h8 n6]
          · have e4 : k = 4 := (nI_eq (b := 4) (by omega) (by decide)).mp c5
            subst e4
            rw [encS_E, E4_p ea ed ep eq, plc_out _ h9 n7 h8 n6]
        · have c4 : k < 4 := by
            apply Nat.lt_of_not_le
            intro z
            exact c4 (nI_le (a := 4) z (by omega))
          unfold wp_X3_standOf
          refine at_in c4 (by decide) (fin _ (fun z => absurd z n6) (fun z => absurd z n7) (fun _ _ => ?_))
          rcases hS.2.1 k c4 (h1 c4) with ⟨q1, q2⟩ | q | q
          · rw [hls k (h1 c4) q2, q1]
          · exact absurd q n6
          · exact absurd q n7
      · rw [bit_and _ (Nat.lt_trans (bits4_lt _) (by decide)) k hk, bits4_tb] at c2
        have e7 : pz s k = 7 := by
          rw [Bool.not_eq_false, Bool.and_eq_true] at c2
          exact eq_of_beq c2.2
        exact fin _ (fun z => absurd z n6) (fun _ => rfl) (fun _ z => absurd e7 z)
    · rw [bit_and _ (bits6_lt _) k hk, bits6_tb] at c
      have e6 : pz s k = 6 := by simpa [hk] using c
      exact fin _ (fun _ => rfl) (fun z => by omega) (fun z => absurd e6 z)
  · refine hp_out hr ht (hb.imp id (fun ⟨k, a1, a2, a3, a4, a5⟩ => ⟨k, a1, a2, a4, a5⟩)) ⟨fun _ => ?_, fun c => absurd rfl c⟩
    exact no_out hat (hb.imp id (fun ⟨k, a1, a2, a3, a4, a5⟩ => ⟨k, a1, a2, a3⟩)) ⟨fun c => absurd c (by decide), fun _ => rfl⟩
