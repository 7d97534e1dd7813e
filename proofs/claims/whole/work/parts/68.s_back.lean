/-! PURE ROWS: back -/
theorem andn_lt {n a b : Nat} (ha : a < 2 ^ n) : andn a b < 2 ^ n := Nat.xor_lt_two_pow ha (Nat.lt_of_le_of_lt Nat.and_le_left ha)
theorem rid4b {A R x y z : Nat} (hA : A < 16) (hx : x < 16) (hy : y < 16) (hz : z < 16) : andn (andn (A + 16 * R) x) (z * 16) ||| y = (andn A x ||| y) + 16 * andn R z := by
  have h1 : andn A x ||| y < 16 := by
    apply Nat.or_lt_two_pow (n := 4) _ hy
    exact Nat.xor_lt_two_pow (n := 4) hA (Nat.and_lt_two_pow (n := 4) A hx)
  apply Nat.eq_of_testBit_eq
  intro j
  rw [low4 h1]
  have hz16 : z * 16 = 0 + 16 * z := by omega
  simp only [Nat.testBit_or, andn_tb, low4 hA]
  rw [hz16, low4 (by decide)]
  by_cases c : j < 4
  · simp [c]
  · have e1 : x.testBit j = false := Nat.testBit_lt_two_pow (Nat.lt_of_lt_of_le (by omega : x < 2 ^ 4) (Nat.pow_le_pow_right (by decide) (by omega)))
    have e2 : y.testBit j = false := Nat.testBit_lt_two_pow (Nat.lt_of_lt_of_le (by omega : y < 2 ^ 4) (Nat.pow_le_pow_right (by decide) (by omega)))
    simp [c, e1, e2]
theorem before_enc {w : Nat → Nat} {s : List Nat} {f o e : Nat} {P : Int32 → Prop} (hz : PzOk s) (hf : f < 6) (ho : o &&& outM w s f = o) (he : e &&& inM s f = e) (hP : P (nI (encS s))) : wp_X8_before (nI (encS (chg s f o e))) (nI f) (nI o) (nI e) P := by
  have l1 := and_lt64 ho (outM_lt w s f)
  have l2 := and_lt64 he (inM_lt s f)
  have ob : ∀ k, o.testBit k = true → pz s k = 6 := fun k hk => (outM_tb (and_sub_tb ho hk)).2.1
  have eb : ∀ k, e.testBit k = true → pz s k = f := fun k hk => (inM_tb (and_sub_tb he hk)).2
  have hz2 : PzOk (chg s f o e) := by
    refine ⟨rfl, fun k hk => ?_⟩
    rw [chg_pz _ _ _ _ _ hk]
    have := hz.2 k hk
    split
    · exact ⟨by decide, fun _ => by decide⟩
    · split
      · split
        · exact ⟨by decide, fun _ => by omega⟩
        · exact ⟨by omega, fun _ => by omega⟩
      · exact this
  obtain ⟨ha, hd, hp, hq⟩ := encS_parts hz2
  have hlt := encS_lt hz2
  unfold wp_X8_before
  intro x hxe
  have ho4 : o % 2 ^ 4 < 16 := Nat.mod_lt _ (by decide)
  have he4 : e % 2 ^ 4 < 16 := Nat.mod_lt _ (by decide)
  rw [anA (by omega) 15 4 (by decide), anA (by omega) 15 4 (by decide), slA _ 4 (by decide) (by omega), nI_andn, nI_andn, fa_or] at hxe
  have e1 : encS (chg s f o e) = bits4 (fun k => pz (chg s f o e) k == 6) + 16 * (bits4 (fun k => pz (chg s f o e) k == 7) + 16 * (plc (pz (chg s f o e) 4) + 8 * plc (pz (chg s f o e) 5))) := by rw [encS_E]; unfold E4; omega
  have e2 : andn (bits4 (fun k => pz (chg s f o e) k == 7) + 16 * (plc (pz (chg s f o e) 4) + 8 * plc (pz (chg s f o e) 5))) (o % 2 ^ 4) = andn (bits4 (fun k => pz (chg s f o e) k == 7)) (o % 2 ^ 4) + 16 * (plc (pz (chg s f o e) 4) + 8 * plc (pz (chg s f o e) 5)) := by
    have := rid4 (R := plc (pz (chg s f o e) 4) + 8 * plc (pz (chg s f o e) 5)) hd ho4 (show 0 < 16 by decide) (show 0 < 16 by decide)
    rw [Nat.zero_mul, Nat.or_zero, Nat.or_zero, Nat.or_zero, Nat.or_zero] at this
    exact this
  rw [e1, show (o % 2 ^ 4) * 2 ^ 4 = (o % 2 ^ 4) * 16 from rfl, rid4b ha he4 ho4 ho4, e2] at hxe
  have gA : andn (bits4 fun k => pz (chg s f o e) k == 6) (e % 2 ^ 4) ||| (o % 2 ^ 4) = bits4 (fun k => pz s k == 6) := by
    apply tb_ext (n := 4) (Nat.or_lt_two_pow (n := 4) (andn_lt (n := 4) ha) ho4) (bits4_lt _)
    intro k hk
    rw [Nat.testBit_or, andn_tb, bits4_tb, bits4_tb, Nat.testBit_mod_two_pow, Nat.testBit_mod_two_pow, chg_pz _ _ _ _ _ (by omega)]
    simp only [hk, decide_true, Bool.true_and]
    cases co : o.testBit k with
    | true => simp [ob k co]
    | false =>
      cases ce : e.testBit k with
      | true =>
        have := eb k ce
        have : ¬ f = 6 := by omega
        simp [eb k ce, this]
      | false => simp
  have gD : andn (bits4 fun k => pz (chg s f o e) k == 7) (o % 2 ^ 4) = bits4 (fun k => pz s k == 7) := by
    apply tb_ext (n := 4) (andn_lt (n := 4) hd) (bits4_lt _)
    intro k hk
    rw [andn_tb, bits4_tb, bits4_tb, Nat.testBit_mod_two_pow, chg_pz _ _ _ _ _ (by omega)]
    simp only [hk, decide_true, Bool.true_and]
    cases co : o.testBit k with
    | true => simp [ob k co]
    | false =>
      cases ce : e.testBit k with
      | true =>
        have := eb k ce
        have : ¬ f = 7 := by omega
        simp [eb k ce, this]
      | false => simp
  have e3 : x = nI (E4 (bits4 fun k => pz s k == 6) (bits4 fun k => pz s k == 7) (plc (pz (chg s f o e) 4)) (plc (pz (chg s f o e) 5))) := by
    rw [hxe, gA, gD]
    congr 1
    unfold E4; omega
  rw [e3]
  obtain ⟨ha0, hd0, hp0, hq0⟩ := encS_parts hz
  refine ws_spec ha0 hd0 hp hq l1 (by decide) ?_
  have hp2 : (if o.testBit 4 = true then 7 else plc (pz (chg s f o e) 4)) < 8 := by split <;> omega
  have hq2 : (if o.testBit 5 = true then 7 else plc (pz (chg s f o e) 5)) < 8 := by split <;> omega
  refine ws_spec ha0 hd0 hp2 hq2 l2 (by omega) ?_
  have f6 : plc f = f := by unfold plc; rw [if_neg (by omega), if_neg (by omega)]
  have g : ∀ k, 4 ≤ k → k < 6 → (if e.testBit k = true then f else if o.testBit k = true then 7 else plc (pz (chg s f o e) k)) = plc (pz s k) := by
    intro k h4 h6
    rw [chg_pz _ _ _ _ _ h6]
    cases ce : e.testBit k with
    | true => rw [if_pos rfl, eb k ce, f6]
    | false =>
      cases co : o.testBit k with
      | true => rw [if_neg (by decide), if_pos rfl, ob k co]; rfl
      | false => simp
  rw [g 4 (by decide) (by decide), g 5 (by decide) (by decide)]
  exact hP
theorem mback_loop {h : Nat} {s : List Nat} {f o e : Nat} {w : Nat → Nat} {mat mmade : Nat → Int32} {P : (Nat → Int32) → Prop} (h24 : h < 24) (ho : o &&& outM w s f = o) (he : e &&& inM s f = e) (hat : ∀ k, k < 6 → mat k = nI (pz (chg s f o e) k)) (m1 : mmade (4 * h + 1) = nI o) (m2 : mmade (4 * h + 2) = nI e) (hP : ∀ g, (∀ k, k < 6 → g k = nI (pz s k)) → P g) :
    kl2 (fun (x_5 : Int32) (f_6 : Nat → Int32) K39 => (((6 : Int32) ≤ x_5 → P f_6) ∧ (¬ (6 : Int32) ≤ x_5 → (vp_in (((4 : Int32) * nI h) + (1 : Int32)) 96 ∧ (wp_X11_has (mmade (((4 : Int32) * nI h) + (1 : Int32)).toNatClampNeg) x_5 (fun r_14 => ((r_14 = 0 → (vp_in (((4 : Int32) * nI h) + (2 : Int32)) 96 ∧ (wp_X11_has (mmade (((4 : Int32) * nI h) + (2 : Int32)).toNatClampNeg) x_5 (fun r_17 => ((r_17 = 0 → (∀ x_19 : Int32, x_19 = x_5 + (1 : Int32) → K39 x_19 f_6)) ∧ (¬ r_17 = 0 → (vp_in x_5 6 ∧ (∀ f_21 : Nat → Int32, f_21 = (upd f_6 x_5.toNatClampNeg (nI f)) → (∀ x_22 : Int32, x_22 = x_5 + (1 : Int32) → K39 x_22 f_21))))))))) ∧ (¬ r_14 = 0 → (vp_in x_5 6 ∧ (∀ f_24 : Nat → Int32, f_24 = (upd f_6 x_5.toNatClampNeg (6 : Int32)) → (vp_in (((4 : Int32) * nI h) + (2 : Int32)) 96 ∧ (wp_X11_has (mmade (((4 : Int32) * nI h) + (2 : Int32)).toNatClampNeg) x_5 (fun r_26 => ((r_26 = 0 → (∀ x_28 : Int32, x_28 = x_5 + (1 : Int32) → K39 x_28 f_24)) ∧ (¬ r_26 = 0 → (vp_in x_5 6 ∧ (∀ f_30 : Nat → Int32, f_30 = (upd f_24 x_5.toNatClampNeg (nI f)) → (∀ x_31 : Int32, x_31 = x_5 + (1 : Int32) → K39 x_31 f_30)))))))))))))))))) (0 : Int32) mat := by
  have l1 := and_lt64 ho (outM_lt w s f)
  have l2 := and_lt64 he (inM_lt s f)
  have ob : ∀ k, o.testBit k = true → pz s k = 6 := fun k hk => (outM_tb (and_sub_tb ho hk)).2.1
  have eb : ∀ k, e.testBit k = true → pz s k = f := fun k hk => (inM_tb (and_sub_tb he hk)).2
  have e0 : (4 : Int32) * nI h = nI (4 * h) := pk_mul 4 h
  have e1 : (4 : Int32) * nI h + (1 : Int32) = nI (4 * h + 1) := by rw [e0]; exact nI_add _ 1
  have e2 : (4 : Int32) * nI h + (2 : Int32) = nI (4 * h + 2) := by rw [e0]; exact nI_add _ 2
  rw [e1, e2, nI_clamp (by omega), nI_clamp (by omega), m1, m2]
  refine kc2 6 (fun j x g => x = nI j ∧ ∀ k, k < 6 → g k = if k < j then nI (pz s k) else nI (pz (chg s f o e) k)) ⟨rfl, fun k hk => by rw [if_neg (by omega)]; exact hat k hk⟩ ?_
  rintro j x g K hj ⟨rfl, hg⟩ hK
  have keep : ∀ (g' : Nat → Int32), j < 6 → (∀ k, k < 6 → k ≠ j → g' k = if k < j then nI (pz s k) else nI (pz (chg s f o e) k)) → g' j = nI (pz s j) → ∀ k, k < 6 → g' k = if k < j + 1 then nI (pz s k) else nI (pz (chg s f o e) k) := by
    intro g' hj h1 h2 k hk
    by_cases c : k = j
    · subst c; rw [if_pos (by omega), h2]
    · rw [h1 k hk c]
      by_cases c2 : k < j
      · rw [if_pos c2, if_pos (by omega)]
      · rw [if_neg c2, if_neg (by omega)]
  refine pk_le 6 j (fun c => hP g (fun k hk => ?_)) (fun c => ?_)
  · rw [hg k hk, if_pos (by omega)]
  · have hcl : (nI j).toNatClampNeg = j := nI_clamp (by omega)
    refine ⟨vp_in_nI (by omega) (by decide), has_spec l1 c (fun co => b_no ⟨vp_in_nI (by omega) (by decide), has_spec l2 c (fun ci => b_no (fun x19 e19 => hK c ⟨by rw [e19, nI_1], ?_⟩)) (fun ci => b_yes ⟨vp_in_nI c (by decide), fun f21 e21 x22 e22 => hK c ⟨by rw [e22, nI_1], ?_⟩⟩)⟩) (fun co => b_yes ⟨vp_in_nI c (by decide), fun f24 e24 => ⟨vp_in_nI (by omega) (by decide), has_spec l2 c (fun ci => b_no (fun x28 e28 => hK c ⟨by rw [e28, nI_1], ?_⟩)) (fun ci => b_yes ⟨vp_in_nI c (by decide), fun f30 e30 x31 e31 => hK c ⟨by rw [e31, nI_1], ?_⟩⟩)⟩⟩)⟩
    · refine keep g c (fun k hk _ => hg k hk) ?_
      rw [hg j c, if_neg (by omega), chg_pz _ _ _ _ _ c]; simp [co, ci]
    · rw [hcl] at e21
      exact keep f21 c (fun k hk hn => by rw [e21, pk_un hn]; exact hg k hk) (by rw [e21, pk_us, eb j ci])
    · rw [hcl] at e24
      exact keep f24 c (fun k hk hn => by rw [e24, pk_un hn]; exact hg k hk) (by rw [e24, pk_us, ob j co]; rfl)
    · rw [hcl] at e24 e30
      exact keep f30 c (fun k hk hn => by rw [e30, pk_un hn, e24, pk_un hn]; exact hg k hk) (by rw [e30, pk_us, eb j ci])
theorem s_back : S_back := by
  intro sea lst lsz lrow mho mfl mh mmade mat lf lr lt lw ls lwa lsa ssz sst scf shl mf mr mt mw ms hD
  have hD0 := hD
  obtain ⟨n, r, t, h, w, b, HF, HO, HI, s, ⟨hH, hS, hSt, hR, hL, rfl, rfl, hrow, hM, hat, rfl, rfl, rfl, hmade⟩, -⟩ := hD
  have hlt := hR.lt
  obtain ⟨h24, S, hS0, hRS⟩ := hR
  unfold wp_X10_back wp_X11_back wp_X5_size
  cases h with
  | zero => exact ⟨fun c => absurd rfl c, fun _ => ⟨fun c => absurd rfl c, fun _ => ⟨rfl, hD0⟩⟩⟩
  | succ h =>
    have hn6 := hH.2.1
    obtain ⟨a1, a2, a3, a4, a5, a6⟩ := hRS h (Nat.lt_succ_self h)
    obtain ⟨b1, b2, b3⟩ := hlt h (Nat.lt_succ_self h)
    obtain ⟨m0, m1, m2, m3⟩ := hmade h (Nat.lt_succ_self h)
    have es : s = chg (S h) (HF h) (HO h) (HI h) := by rw [← hS0, a4]
    refine ⟨fun _ => ?_, fun c => absurd c (nI_ne0 (by omega) (by omega))⟩
    unfold wp_X5_takeBack
    refine ⟨fun c => absurd c (nI_nle (by omega) (by omega)), fun _ x2 e2 => ?_⟩
    rw [nI_pred] at e2
    subst e2
    unfold wp_X5_haltAt
    refine at_in (by omega) (by decide) ?_
    rw [hrow h (Nat.lt_succ_self h)]
    unfold wp_X2_floorOf
    refine told0 (by omega) b2 b3 (told1 (by omega) b2 b3 (told2 (by omega) b2 b3 ?_))
    rw [es]
    refine before_enc (a5.pz hn6) (by omega) a2 a3 ?_
    rw [es] at hat
    refine ⟨fun _ x2 e2 => ?_, fun c => absurd c (nI_ne0 (by omega) (by omega))⟩
    rw [nI_pred] at e2
    subst e2
    have e0 : (4 : Int32) * nI h = nI (4 * h) := pk_mul 4 h
    have e3 : (4 : Int32) * nI h + (3 : Int32) = nI (4 * h + 3) := by rw [e0]; exact nI_add _ 3
    refine ⟨by rw [e0]; exact vp_in_nI (by omega) (by decide), fun x4 e4 => ?_⟩
    rw [e0, nI_clamp (by omega), m0] at e4
    subst e4
    refine mback_loop (by omega) a2 a3 hat m1 m2 (fun g hg => ?_)
    rw [e3, nI_clamp (by omega), m3]
    obtain ⟨f1, f2⟩ := flN_le hn6 (fun i hi => (hlt i hi).1) h (by omega)
    have fin : ∀ v : Int32, v = nI (flN HF h) → nI h = nI h ∧ RD lf lr lt (nI (encS (S h))) (nI h) lw ls lwa lsa lrow 0 ssz sst scf shl mf mr mt (nI (hoN HF h)) v (nI h) g mw ms mmade := by
      rintro v rfl
      exact ⟨rfl, n, r, t, h, w, b, HF, HO, HI, S h, ⟨hH, a5, a6, ⟨by omega, S, rfl, fun i hi => hRS i (by omega)⟩, hL, rfl, rfl, fun i hi => hrow i (by omega), hM, hg, rfl, rfl, rfl, fun i hi => hmade i (by omega)⟩, Or.inl rfl⟩
    have ef : flN HF (h + 1) = flN HF h + (if hoN HF h < HF h then HF h - hoN HF h else hoN HF h - HF h) := rfl
    refine ⟨vp_in_nI (by omega) (by decide), ?_⟩
    rintro x9 rfl
    refine pk_le (HF h) (hoN HF h) (fun c x11 e11 => fin _ ?_) (fun c x12 e12 => fin _ ?_)
    · rw [e11, pk_sub c, ef, if_neg (by omega), pk_sub (by omega)]
      congr 1; omega
    · rw [e12, pk_sub (by omega), ef, if_pos c, pk_sub (by omega)]
      congr 1; omega
