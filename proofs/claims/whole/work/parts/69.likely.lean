/-! PURE ROWS: likely -/
theorem s_likely : S_likely := by
  intro p0 p1 lr lt tn mat mtn lf lst lsz lw ls lwa lsa lrow sea ssz sst scf shl mf mr mt mho mfl mh mw ms mmade hD hC
  obtain ⟨n, r, t, h, w, b, HF, HO, HI, s, ⟨hH, hS, hT, -, hL, rfl, -, -, hM, hat, -⟩, -⟩ := hD
  obtain ⟨-, rfl, rfl, -⟩ := hL
  obtain ⟨hn2, hn6, hr, ht, hwb⟩ := hH
  have hC0 := hC
  obtain ⟨T, hC⟩ := hC
  unfold wp_X10_likely wp_X11_likely
  rcases person_cases hS hT hn6 hr ht p0 with ⟨k, hk, rfl, h8, h1, h2⟩ | hb
  · have h9 := ((hS.pz hn6).2 k hk).1
    have hcl : (nI k).toNatClampNeg = k := nI_clamp (by omega)
    refine hp_in hr ht hk h1 h2 (b_yes' ?_)
    rcases cases_n (m := 11) (by decide) p1 with ⟨q, hq, rfl⟩ | hb
    · refine ⟨fun c => absurd c (nI_pos (by omega)), fun _ => ⟨fun _ => ?_, fun c => absurd (nI_le (b := 10) (by omega) (by decide)) c⟩⟩
      unfold wp_X0_change
      refine at_in hk (by decide) (put_in hk (by decide) (no_in hat h9 hk h8 (b_no (in_spec (fun _ => b_yes' ⟨vp_in_nI hk (by decide), fun x6 e6 => ⟨vp_in_nI hk (by decide), fun f8 e8 => ?_⟩⟩) (fun z => absurd ((in_0n (m := 11) (by decide) _ 10 (by decide)).mpr (fun y => y.elim (fun y => nI_pos (by omega) y) (fun y => nI_ge hq (by decide) y))) z)))))
      rw [hcl] at e6 e8
      rw [e6, e8]
      refine ⟨(hC k hk).2.1.trans (hC k hk).2.2.symm, setN T k q, fun i hi => ?_⟩
      by_cases c : i = k
      · subst c
        rw [pk_us, pk_us, setN_eq]
        exact ⟨by omega, rfl, rfl⟩
      · rw [pk_un c, pk_un c, setN_ne _ _ c]
        exact hC i hi
    · have out : wp_X11_likely (nI k) p1 mat mtn (fun r2 z0 z1 => (-2 : Int32) = r2 ∧ RC tn z1) := by
        unfold wp_X11_likely
        exact no_in hat h9 hk h8 (b_no (in_spec (fun z => absurd hb ((in_0n (m := 11) (by decide) _ 10 (by decide)).mp z)) (fun _ => b_no' ⟨rfl, hC0⟩)))
      refine ⟨fun _ => out, fun c => ⟨fun c2 => ?_, fun _ => out⟩⟩
      rcases hb with y | y
      · exact absurd y c
      · exfalso
        rw [Int32.le_iff_toInt_le, show (nI 11).toInt = 11 from by decide] at y
        rw [Int32.le_iff_toInt_le, show (10 : Int32).toInt = 10 from by decide] at c2
        omega
  · refine hp_out hr ht (hb.imp id (fun ⟨k, a1, a2, a3, a4, a5⟩ => ⟨k, a1, a2, a4, a5⟩)) (b_no' ?_)
    exact no_out hat (hb.imp id (fun ⟨k, a1, a2, a3, a4, a5⟩ => ⟨k, a1, a2, a3⟩)) (b_yes ⟨rfl, hC0⟩)
