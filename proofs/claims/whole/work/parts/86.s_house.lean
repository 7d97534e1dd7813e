/-! PURE ROWS: house -/
theorem s_house : S_house := by
  intro sea tz tb d1 d2 d3 d4 d5 dwa dsa dw ds lst lsz lf lr lt lw ls lwa lsa drow lrow esz ctn mz mf mr mt mho mfl mh mrf mse mra mtx mrs mrw mat mw mtn ms ssz sst scf shl mmade esf esn msf msn hRT hRD hRE hRC
  obtain ⟨c, N, rfl, rfl, hT, hT2⟩ := hRT.txt
  have hN := hT.1
  have bad : (∀ n, HeadOk c N n → (runF c N n 40 2 D0).1 ≠ none) → wp_X11_house (nI N) mf mr mt mho mfl mh mrf mse mra mtx mrs mrw mat mw mtn ms (fun r2 z0 z1 z2 z3 z4 z5 z6 z7 z8 z9 z10 z11 z12 z13 z14 z15 z16 z17 z18 => (-3 : Int32) = r2 ∧ RD lf lr lt lst lsz lw ls lwa lsa lrow sea ssz sst scf shl z2 z3 z4 z5 z6 z7 z15 z16 z18 mmade ∧ RE esz esf esn z11 msf msn ∧ RC ctn z17) := by
    intro hb
    unfold wp_X11_house
    refine mread_spec hT2 (fun _ _ _ _ _ _ _ _ => ⟨fun z => absurd z (by decide), fun _ => ⟨rfl, hRD, hRE, hRC⟩⟩) (fun _ _ _ _ _ _ _ _ _ _ => ⟨fun z => absurd z (by decide), fun _ => ⟨rfl, hRD, hRE, hRC⟩⟩) (fun n q hH hq _ _ _ _ _ _ _ => ⟨fun z => absurd z (nI_n9 q ?_), fun _ => ⟨rfl, hRD, hRE, hRC⟩⟩) (fun n hH hq => absurd hq (hb n hH))
    have := (runF_ok (c := c) (N := N) 40 2 D0 (ok0 hH.2.2.2.1 hH.2.2.2.2)).2 q hq
    omega
  unfold wp_X10_house
  refine cread_spec hT (fun h _ _ _ _ _ _ _ _ _ _ => ⟨fun z => absurd z (by decide), fun _ => bad (fun n hH _ => ?_)⟩) (fun _ _ h _ _ _ _ _ _ _ _ _ _ => ⟨fun z => absurd z (by decide), fun _ => bad (fun n hH _ => h n hH)⟩) (fun n q hH hq _ _ _ _ _ _ _ _ _ _ => ⟨fun z => absurd z (nI_n9 q ?_), fun _ => bad (fun m hH' hq' => ?_)⟩) (fun n hH hq x1 lst2 lr2 lt2 lwa2 lsa2 lw2 ls2 hC => ⟨fun _ => ?_, fun z => absurd rfl z⟩)
  · have := hH.1
    rcases h with h | h
    · omega
    · exact h hH.2.1
  · have := (runF_ok (c := c) (N := N) 40 2 D0 (ok0 hH.2.2.2.1 hH.2.2.2.2)).2 q hq
    omega
  · have := head_one hH hH'
    subst this
    rw [hq] at hq'; exact nomatch hq'
  · have hO := (runF_ok (c := c) (N := N) 40 2 D0 (ok0 hH.2.2.2.1 hH.2.2.2.2)).1
    refine copyFrom_spec (fun u1 u2 u3 u4 u5 g1 g2 g3 g4 g5 => ?_)
    unfold wp_X7_clear wp_X0_reset
    refine fillI_spec (by decide) (fun f24 h24 => ?_)
    unfold wp_X3_people wp_X11_house
    have hd : HeadOk c N n := hH
    refine mread_spec hT2 (fun h => ?_) (fun _ _ h => absurd hH (h n)) (fun m q hH' hq' => ?_) (fun m hH' hq' y1 rr rs ra rst rw_ hR => ⟨fun _ => ?_, fun z => absurd rfl z⟩)
    · have := hH.1
      exfalso
      rcases h with h | h
      · omega
      · exact h hH.2.1
    · have := head_one hH hH'
      subst this
      rw [hq] at hq'; exact nomatch hq'
    · have e := head_one hH hH'
      subst e
      generalize (runF c N n 40 2 D0).2 = D at hO hC hR
      obtain ⟨r, t, w, b, s⟩ := D
      obtain ⟨hHo, hSt, hStr⟩ := hO
      have hr4 : r ≤ 4 := hHo.2.2.1
      obtain ⟨elst, l1, l2, l3, l4, l5, l6, l7, l8⟩ := hC
      obtain ⟨m1, m2, m3, m4, m5⟩ := hR
      refine kc3 6 (fun j x f g => x = nI j ∧ ∀ k, k < j → f k = ra k ∧ g k = 10) ⟨rfl, fun k h => absurd h (Nat.not_lt_zero k)⟩ ?_
      rintro j x f11 f12 K hj ⟨rfl, hf⟩ hK
      refine pk_le 6 j (fun q6 => ?_) (fun q6 => ⟨vp_in_nI q6 (by decide), fun x28 e28 => ⟨vp_in_nI q6 (by decide), fun f30 e30 => ⟨vp_in_nI q6 (by decide), fun f32 e32 x33 e33 => hK q6 ⟨by rw [e33, nI_1], fun k hk => ?_⟩⟩⟩⟩)
      rotate_left
      · rw [nI_clamp (by omega)] at e28 e30 e32
        rw [e30, e32, e28]
        by_cases q : k = j
        · subst q; rw [pk_us, pk_us]; exact ⟨rfl, rfl⟩
        · rw [pk_un q, pk_un q]; exact hf k (by omega)
      have ej : j = 6 := by omega
      subst ej
      clear hK
      refine kc3 4 (fun j x f g => x = nI j ∧ ∀ k, k < j → f k = rw_ k ∧ g k = rst k) ⟨rfl, fun k h => absurd h (Nat.not_lt_zero k)⟩ ?_
      rintro j x f15 f16 K2 hj2 ⟨rfl, hg⟩ hK2
      refine pk_le 4 j (fun q4 => ?_) (fun q4 => ⟨vp_in_nI q4 (by decide), fun x19 e19 => ⟨vp_in_nI q4 (by decide), fun f21 e21 => ⟨vp_in_nI q4 (by decide), fun x23 e23 => ⟨vp_in_nI q4 (by decide), fun f25 e25 x26 e26 => hK2 q4 ⟨by rw [e26, nI_1], fun k hk => ?_⟩⟩⟩⟩⟩)
      rotate_left
      · rw [nI_clamp (by omega)] at e19 e21 e23 e25
        rw [e21, e25, e19, e23]
        by_cases q : k = j
        · subst q; rw [pk_us, pk_us]; exact ⟨rfl, rfl⟩
        · rw [pk_un q, pk_un q]; exact hg k (by omega)
      have ej : j = 4 := by omega
      subst ej
      refine ⟨by rw [l2, l3, m1, m2], ⟨n, r, t, 0, w, b, fun _ => 0, fun _ => 0, fun _ => 0, s, ⟨hHo, hSt, hStr, ⟨by decide, fun _ => s, rfl, fun i h => absurd h (Nat.not_lt_zero i)⟩, ⟨rfl, l2, l3, fun k hk => ?_, fun k hk hb => ?_, fun k hk hb => ?_, fun f hf => ?_, fun f hf => ?_⟩, elst, rfl, fun i h => absurd h (Nat.not_lt_zero i), ⟨rfl, m1, m2, fun k hk => ?_, fun k hk hb => ?_⟩, fun k hk => ?_, rfl, rfl, rfl, fun i h => absurd h (Nat.not_lt_zero i)⟩, Or.inl rfl⟩, ?_, ?_⟩
      · exact (g1 k (by omega)).trans (l4 k hk)
      · exact (g2 k (by omega)).trans (l5 k hk hb)
      · exact (g2 k (by omega)).trans (l6 k hk hb)
      · exact (g3 f hf).trans (l7 f hf)
      · exact (g4 f hf).trans (l8 f hf)
      · exact (hg k (by omega)).1.trans (m4 k hk)
      · exact (hg k (by omega)).2.trans (m5 k hk hb)
      · exact (hf k hk).1.trans (m3 k hk)
      · obtain ⟨kk, SF, SN, -, -, -, -⟩ := hRE
        exact ⟨0, SF, SN, by decide, rfl, rfl, fun i h => absurd h (Nat.not_lt_zero i)⟩
      · exact ⟨fun _ => 10, fun k hk => ⟨Nat.le_refl 10, h24 k hk, (hf k hk).2⟩⟩
