/-! PURE ROWS: even, both ways -/
theorem nI_l10 {a : Nat} (h : a ≤ 10) : ((10 : Int32) - nI a).toInt64 = lN (10 - a) := by
  rw [show (10 : Int32) = nI 10 from rfl, pk_sub h, nI_l (by omega)]
theorem atL_neg {f : Nat → Int64} {N : Nat} {i : Int32} {P : Int64 → Prop} (hi : i < 0) (h : P 0) : wp_X10_at_ i N f P := by
  unfold wp_X10_at_
  exact ⟨fun _ => h, fun c => absurd hi c⟩
theorem join_spec {a : Nat} (ha : a ≤ 10) {c c2 : Nat → Nat} {f : Nat → Int64} (hf : ∀ j, j < 7 → f j = lN (c j)) (h2 : ∀ j, j < 7 → c2 j = c j * (10 - a) + (if j = 0 then 0 else c (j - 1)) * a) {P : (Nat → Int64) → Prop} (hP : ∀ g, (∀ j, j < 7 → g j = lN (c2 j)) → P g) : wp_X0_join (nI a) 7 f P := by
  unfold wp_X0_join
  refine kf2 7 (fun i x g => i ≤ 7 ∧ x = dn i ∧ ∀ j, j < 7 → g j = lN (if i ≤ j then c2 j else c j)) ⟨Nat.le_refl 7, rfl, fun j hj => by rw [if_neg (by omega)]; exact hf j hj⟩ ?_
  rintro i x g K ⟨hi, rfl, hg⟩ hK
  cases i with
  | zero => exact ⟨fun _ => hP g (fun j hj => by rw [hg j hj, if_pos (Nat.zero_le j)]), fun c => absurd dn_0 c⟩
  | succ i =>
    refine ⟨fun c => absurd c (dn_s (by omega)), fun _ => ?_⟩
    show wp_X10_at_ (nI i) _ _ _
    have e : dn (i + 1) = nI i := rfl
    rw [e]
    refine atL_in (by omega) (by decide) ?_
    have nxt : ∀ r5 : Int64, r5 = lN (if i = 0 then 0 else c (i - 1)) → wp_X10_put_ (nI i) ((g i * (((10 : Int32) - nI a).toInt64)) + (r5 * ((nI a).toInt64))) 7 g (fun f_6 => (∀ x_7 : Int32, x_7 = nI i + (-1 : Int32) → K x_7 f_6)) := by
      rintro r5 rfl
      refine putL_in (by omega) (by decide) (fun x7 e7 => hK i _ _ (Nat.lt_succ_self i) ⟨by omega, by rw [e7]; exact dn_p i, fun j hj => ?_⟩)
      by_cases q : j = i
      · subst q
        rw [pk_uLs, hg j hj, if_neg (by omega), if_pos (Nat.le_refl j), nI_l10 ha, nI_l (by omega), lN_mul, lN_mul, lN_add, h2 j hj]
      · rw [pk_uLn q, hg j hj]
        by_cases q2 : i + 1 ≤ j
        · rw [if_pos q2, if_pos (by omega)]
        · rw [if_neg q2, if_neg (by omega)]
    cases i with
    | zero => exact atL_neg (by decide) (nxt 0 rfl)
    | succ i =>
      rw [show nI (i + 1) - (1 : Int32) = nI i from nI_pred i]
      refine atL_in (by omega) (by decide) (nxt _ ?_)
      rw [hg i (by omega), if_neg (by omega), if_neg (by omega)]; rfl
theorem weighOne_spec {T : Nat → Nat} {m : Nat} {f : Nat → Int64} {tn : Nat → Int32} (hm : m < 64) (hT : ∀ k, k < 6 → T k ≤ 10 ∧ tn k = nI (T k)) {P : Int64 → (Nat → Int64) → Prop} (hP : ∀ g, (∀ j, j < 7 → g j = lN (FN T m 6 j)) → P (lN (10 ^ pop6 m)) g) : wp_X0_weighOne (nI m) 7 f tn P := by
  unfold wp_X0_weighOne
  refine fillL_spec (by decide) (fun f1 h1 => ?_)
  show wp_X10_put_ (nI 0) (lN 1) 7 f1 _
  refine putL_in (by decide) (by decide) ?_
  refine kc3 6 (fun k x y g => y = nI k ∧ x = lN (10 ^ cntN k m.testBit) ∧ ∀ j, j < 7 → g j = lN (FN T m k j)) ⟨rfl, rfl, fun j hj => ?_⟩ ?_
  · rw [FN_zero]
    by_cases q : j = 0
    · subst q; rw [pk_uLs, if_pos rfl]
    · rw [pk_uLn q, if_neg q, h1 j hj]; rfl
  rintro k x y g K hk ⟨rfl, rfl, hg⟩ hK
  refine pk_le 6 k (fun c => ?_) (fun c => ?_)
  · have e : k = 6 := by omega
    subst e
    have := hP g hg
    rw [pop_cnt] at this
    exact this
  · obtain ⟨t1, t2⟩ := hT k c
    have hb := bit_and m hm k c
    refine ⟨fun cb x8 e8 => hK c ⟨by rw [e8, nI_1], ?_, fun j hj => ?_⟩, fun cb => at_in c (by decide) ?_⟩
    · rw [hb] at cb
      show lN (10 ^ cntN k m.testBit) = lN (10 ^ (cntN k m.testBit + (m.testBit k).toNat))
      rw [cb]; rfl
    · rw [hb] at cb
      rw [hg j hj, FN_succ, if_neg (by rw [cb]; decide)]
    · rw [hb, Bool.not_eq_false] at cb
      rw [t2]
      refine join_spec t1 (c := FN T m k) (c2 := FN T m (k + 1)) hg (fun j _ => by rw [FN_succ, if_pos cb]) (fun g' hg' x11 e11 x12 e12 => hK c ⟨by rw [e12, nI_1], ?_, hg'⟩)
      show x11 = lN (10 ^ (cntN k m.testBit + (m.testBit k).toNat))
      rw [e11, cb, show (10 : Int64) = lN 10 from rfl, lN_mul]
      show _ = lN (10 ^ (cntN k m.testBit + 1))
      rw [Nat.pow_succ]
/-- the greatest common divisor, by steps -/
theorem gcd_step {a b : Nat} : Nat.gcd b (a % b) = Nat.gcd a b := by
  rw [Nat.gcd_comm b, Nat.gcd_comm a b, ← Nat.gcd_rec]
theorem half_step {a b B : Nat} (hb : 0 < b) (hab : b < a) (h : a * b < 2 * B) : b * (a % b) < B := by
  have hc : a % b < b := Nat.mod_lt _ hb
  have h1 : b + a % b ≤ a := by
    have := Nat.mod_add_div a b
    have h2 : 1 ≤ a / b := Nat.div_pos (Nat.le_of_lt hab) hb
    have h3 : b * 1 ≤ b * (a / b) := Nat.mul_le_mul_left b h2
    omega
  have h4 : (b + a % b) * b ≤ a * b := Nat.mul_le_mul_right b h1
  rw [Nat.add_mul] at h4
  have h5 : a % b * b ≤ b * b := Nat.mul_le_mul_right b (Nat.le_of_lt hc)
  rw [Nat.mul_comm b (a % b)]
  omega
theorem div_spec {a b : Nat} (ha : a ≤ 1000000) (hb : b ≤ 1000000) (h0 : 0 < a) {P : Int64 → Prop} (hP : P (lN (Nat.gcd a b))) : wp_X0_commonDivisor (lN a) (lN b) P := by
  unfold wp_X0_commonDivisor
  refine kc3 100 (fun i x y z => z = nI i ∧ ∃ u v, x = lN u ∧ y = lN v ∧ 0 < u ∧ u ≤ 1000000 ∧ v ≤ 1000000 ∧ Nat.gcd u v = Nat.gcd a b ∧ (0 < i → v < u ∧ u * v < 2 ^ (60 - i))) ⟨rfl, a, b, rfl, rfl, h0, ha, hb, rfl, fun z => absurd z (Nat.lt_irrefl 0)⟩ ?_
  rintro i x y z K hi ⟨rfl, u, v, rfl, rfl, hu, hu6, hv6, hg, hs⟩ hK
  have done : v = 0 → P (lN u) := by
    intro e
    subst e
    rw [Nat.gcd_zero_right] at hg
    rw [hg]; exact hP
  refine pk_le 100 i (fun c => done ?_) (fun c => ?_)
  · obtain ⟨-, h2⟩ := hs (by omega)
    rw [show 60 - i = 0 by omega] at h2
    have : u * v = 0 := by omega
    rcases Nat.mul_eq_zero.mp this with q | q <;> omega
  · have hcmp := cmp_0 (v := v) (by omega)
    refine ⟨fun cz => done (hcmp.mp cz), fun cz => ?_⟩
    have hv : v ≠ 0 := fun q => cz (hcmp.mpr q)
    have hv0 : 0 < v := by omega
    refine ⟨fun q => hv ((pk_lEQ (b := 0) (by omega) (by decide)).mp q), ?_⟩
    rw [pk_lRem (by omega) hv0 (by omega)]
    rintro x7 rfl x8 e8
    have hm := Nat.mod_lt u hv0
    refine hK c ⟨by rw [e8, nI_1], v, u % v, rfl, rfl, hv0, hv6, by omega, by rw [gcd_step]; exact hg, fun _ => ⟨hm, ?_⟩⟩
    cases i with
    | zero =>
      have h1 : v * (u % v) ≤ 1000000 * 1000000 := Nat.mul_le_mul hv6 (by omega)
      have h2 : 1000000 * 1000000 < 2 ^ (60 - (0 + 1)) := by decide
      omega
    | succ i =>
      obtain ⟨h1, h2⟩ := hs (by omega)
      by_cases ci : i + 1 < 60
      · refine half_step hv0 h1 ?_
        rw [show 60 - (i + 1) = (60 - (i + 1 + 1)) + 1 by omega, Nat.pow_succ] at h2
        omega
      · rw [show 60 - (i + 1) = 0 by omega] at h2
        have h3 : 1 ≤ u * v := Nat.mul_pos hu hv0
        omega
theorem weigh_spec {T : Nat → Nat} {ml me : Nat} (h1 : ml < 64) (h2 : me < 64) (hd : ml &&& me = 0) {ab be : Int64} {f g : Nat → Int64} {tn : Nat → Int32} (hT : ∀ k, k < 6 → T k ≤ 10 ∧ tn k = nI (T k)) {P : Int64 → Int64 → (Nat → Int64) → (Nat → Int64) → Prop}
    (hP : ∀ f g, P (lN (likeN T ml me / Nat.gcd (10 ^ pop6 ml * 10 ^ pop6 me) (likeN T ml me))) (lN (10 ^ pop6 ml * 10 ^ pop6 me / Nat.gcd (10 ^ pop6 ml * 10 ^ pop6 me) (likeN T ml me))) f g) : wp_X0_weigh (nI ml) (nI me) ab be f tn g P := by
  have hT' : ∀ k, k < 6 → T k ≤ 10 := fun k hk => (hT k hk).1
  have hle := like_le (ml := ml) (me := me) hT'
  have hten := ten_eq h1 h2 hd
  have hall : 0 < 10 ^ pop6 ml * 10 ^ pop6 me := Nat.mul_pos (Nat.pow_pos (by decide)) (Nat.pow_pos (by decide))
  have hall6 : 10 ^ pop6 ml * 10 ^ pop6 me ≤ 1000000 := by
    rw [← hten]
    refine Nat.le_mul_of_pos_right _ ?_
    apply Nat.pos_of_ne_zero
    intro z
    rw [z, Nat.mul_zero] at hten
    omega
  unfold wp_X0_weigh
  refine weighOne_spec h1 hT (fun f1 hf1 => weighOne_spec h2 hT (fun f3 hf3 x5 e5 => ?_))
  rw [lN_mul] at e5
  subst e5
  refine kc2 6 (fun j x y => y = nI (j + 1) ∧ x = lN (fb_sm (fun j => FN T ml 6 (j + 1) * FN T me 6 (j + 1)) j)) ⟨rfl, rfl⟩ ?_
  rintro j x y K hj ⟨rfl, rfl⟩ hK
  refine pk_lt 6 (j + 1) (fun c => ?_) (fun c => atL_in (by omega) (by decide) (atL_in (by omega) (by decide) (fun x17 e17 x18 e18 => hK (by omega) ⟨by rw [e18, nI_1], ?_⟩)))
  · have e : j = 6 := by omega
    subst e
    show wp_X0_commonDivisor _ (lN (likeN T ml me)) _
    have hgp : 0 < Nat.gcd (10 ^ pop6 ml * 10 ^ pop6 me) (likeN T ml me) := Nat.gcd_pos_of_pos_left _ hall
    have hg6 : Nat.gcd (10 ^ pop6 ml * 10 ^ pop6 me) (likeN T ml me) ≤ 1000000 := Nat.le_trans (Nat.gcd_le_left _ hall) hall6
    refine div_spec hall6 (by omega) hall ?_
    have hne : ¬ lN (Nat.gcd (10 ^ pop6 ml * 10 ^ pop6 me) (likeN T ml me)) = 0 := fun q => by
      have := (pk_lEQ (b := 0) (by omega) (by decide)).mp q
      omega
    refine ⟨fun cz => ?_, fun _ => ⟨hne, ?_⟩⟩
    · rw [cmp_0 (by omega)] at cz
      omega
    · rintro x12 rfl
      refine ⟨hne, ?_⟩
      rintro x14 rfl
      have e2 := hP f1 f3
      rw [← pk_lDiv (by omega) hgp (by omega), ← pk_lDiv (by omega) hgp (by omega)] at e2
      exact e2
  · rw [e17, hf1 (j + 1) (by omega), hf3 (j + 1) (by omega), lN_mul, lN_add, fb_sm_succ]
/-! the reference's -/
theorem weight_spec {T : Nat → Nat} {M X : Nat} {tn : Nat → Int32} (hM : M < 64) (hX : X < 64) (hT : ∀ k, k < 6 → T k ≤ 10 ∧ tn k = nI (T k)) {P : Int64 → Prop} (hP : P (lN (prodN (fac10 T M X) 6))) : wp_X11_weight (nI M) (nI X) tn P := by
  unfold wp_X11_weight
  refine kc2 6 (fun k x y => y = nI k ∧ x = lN (prodN (fac10 T M X) k)) ⟨rfl, rfl⟩ ?_
  rintro k x y K hk ⟨rfl, rfl⟩ hK
  refine pk_le 6 k (fun c => ?_) (fun c => ?_)
  · have e : k = 6 := by omega
    subst e; exact hP
  · obtain ⟨t1, t2⟩ := hT k c
    have ep : prodN (fac10 T M X) (k + 1) = prodN (fac10 T M X) k * fac10 T M X k := rfl
    have el : (tn k).toInt64 = lN (T k) := by rw [t2]; exact nI_l (by omega)
    have hcl : (nI k).toNatClampNeg = k := nI_clamp (by omega)
    refine has_spec hM c (fun cm => ⟨fun z => absurd rfl z, fun _ x14 e14 x15 e15 => hK c ⟨by rw [e15, nI_1], ?_⟩⟩) (fun cm => ⟨fun _ => has_spec hX c (fun cx => b_no ⟨vp_in_nI c (by decide), fun x9 e9 x10 e10 => hK c ⟨by rw [e10, nI_1], ?_⟩⟩) (fun cx => b_yes ⟨vp_in_nI c (by decide), fun x12 e12 x13 e13 => hK c ⟨by rw [e13, nI_1], ?_⟩⟩), fun z => absurd z (by decide)⟩)
    · rw [e14, ep, show fac10 T M X k = 10 by unfold fac10; rw [cm]; rfl, show (10 : Int64) = lN 10 from rfl, lN_mul]
    · rw [e9, hcl, el, ep, show fac10 T M X k = 10 - T k by unfold fac10; rw [cm, cx]; rfl, show (10 : Int64) = lN 10 from rfl, lN_sub t1, lN_mul]
    · rw [e12, hcl, el, ep, show fac10 T M X k = T k by unfold fac10; rw [cm, cx]; rfl, lN_mul]
theorem meuclid {p1 : Int32} {a : Nat} (ha : a ≤ 1000000) {P : Int64 → Prop} (h0 : p1 = 0 → P (lN (1000000 / Nat.gcd a 1000000))) (h1 : ¬ p1 = 0 → P (lN (a / Nat.gcd a 1000000))) :
    kl2 (fun (x_9 : Int64) (x_10 : Int64) K135 => (((lg_cmp x_10 (0 : Int64)) = 0 → ((p1 = 0 → (¬ x_9 = 0 ∧ P ((1000000 : Int64) / x_9))) ∧ (¬ p1 = 0 → (¬ x_9 = 0 ∧ P (lN a / x_9))))) ∧ (¬ (lg_cmp x_10 (0 : Int64)) = 0 → (¬ x_10 = 0 ∧ (∀ x_16 : Int64, x_16 = (x_9 - x_9 / x_10 * x_10) → K135 x_10 x_16))))) (lN a) (1000000 : Int64) := by
  refine kf2 1000000 (fun m x y => ∃ u v, m = v ∧ x = lN u ∧ y = lN v ∧ u ≤ 1000000 ∧ v ≤ 1000000 ∧ Nat.gcd u v = Nat.gcd a 1000000) ⟨a, 1000000, rfl, rfl, rfl, ha, Nat.le_refl _, rfl⟩ ?_
  rintro m x y K ⟨u, v, rfl, rfl, rfl, hu, hv, hg⟩ hK
  have hcmp := cmp_0 (v := m) (by omega)
  have hgp : 0 < Nat.gcd a 1000000 := Nat.gcd_pos_of_pos_right _ (by decide)
  refine ⟨fun cz => ?_, fun cz => ?_⟩
  · have e := hcmp.mp cz
    subst e
    rw [Nat.gcd_zero_right] at hg
    subst hg
    have hne : ¬ lN (Nat.gcd a 1000000) = 0 := fun q => by
      have := (pk_lEQ (b := 0) (by omega) (by decide)).mp q
      omega
    refine ⟨fun c => ⟨hne, ?_⟩, fun c => ⟨hne, ?_⟩⟩
    · rw [show (1000000 : Int64) = lN 1000000 from rfl, pk_lDiv (by decide) hgp (by omega)]
      exact h0 c
    · rw [pk_lDiv (by omega) hgp (by omega)]
      exact h1 c
  · have hm : m ≠ 0 := fun q => cz (hcmp.mpr q)
    have hm0 : 0 < m := by omega
    refine ⟨fun q => hm ((pk_lEQ (b := 0) (by omega) (by decide)).mp q), ?_⟩
    rw [pk_lRem (by omega) hm0 (by omega)]
    rintro x16 rfl
    have h2 := Nat.mod_lt u hm0
    exact hK (u % m) _ _ h2 ⟨m, u % m, rfl, rfl, rfl, hv, by omega, by rw [gcd_step]; exact hg⟩
theorem mevsum {T : Nat → Nat} {ml me : Nat} (h1 : ml < 64) (h2 : me < 64) {tn : Nat → Int32} (hT : ∀ k, k < 6 → T k ≤ 10 ∧ tn k = nI (T k)) {Q : Int64 → Prop} (hQ : Q (lN ((pairs ml me).map fun q => prodN (fac10 T (ml ||| me) (q.1 ||| q.2)) 6).sum)) :
    wp_X11_next (0 : Int32) (nI ml) (fun r_5 => (kl2 (fun (x_6 : Int64) (x_7 : Int32) K50 => ((x_7 = 0 → Q x_6) ∧ (¬ x_7 = 0 → (wp_X11_next (0 : Int32) (nI me) (fun r_17 => (kl2 (fun (x_18 : Int64) (x_19 : Int32) K63 => ((x_19 = 0 → (wp_X11_next x_7 (nI ml) (fun r_21 => K50 x_18 r_21))) ∧ (¬ x_19 = 0 → (wp_X11_many x_7 (fun r_22 => (wp_X11_many x_19 (fun r_23 => ((¬ r_22 = r_23 → (wp_X11_next x_19 (nI me) (fun r_25 => K63 x_18 r_25))) ∧ (r_22 = r_23 → (wp_X11_weight (nI ml ||| nI me) (x_7 ||| x_19) tn (fun r_26 => (∀ x_27 : Int64, x_27 = (x_18 + r_26) → (wp_X11_next x_19 (nI me) (fun r_28 => K63 x_27 r_28)))))))))))))) x_6 r_17)))))) (0 : Int64) r_5)) := by
  obtain ⟨W, hW⟩ : ∃ W : Nat × Nat → Nat, W = fun q => prodN (fac10 T (ml ||| me) (q.1 ||| q.2)) 6 := ⟨_, rfl⟩
  rw [← hW] at hQ
  rw [outG_pairs] at hQ
  refine next0 h1 ?_
  refine kr2 (subs ml) (fun l x y => ∃ a, x = lN a ∧ y = nI (l.headD 0) ∧ NxC ml l ∧ a + ((outG me l).map W).sum = ((outG me (subs ml)).map W).sum) ⟨0, rfl, rfl, (subs_chain h1).1, Nat.zero_add _⟩ ?_ ?_
  · rintro x y K ⟨a, rfl, rfl, -, hs⟩
    have hs : a = _ := hs
    rw [← hs] at hQ
    exact b_no hQ
  · rintro x l y _ K ⟨a, rfl, rfl, hx, hs⟩ hK
    refine ⟨fun z => absurd z (nz64 hx.2.1 hx.1), fun _ => next0 h2 ?_⟩
    rw [outG_cons] at hs
    refine kr2 (subs me) (fun l2 x' y => ∃ a, x' = lN a ∧ y = nI (l2.headD 0) ∧ NxC me l2 ∧ a + ((inG me x l2 ++ outG me l).map W).sum = ((outG me (subs ml)).map W).sum) ⟨a, rfl, rfl, (subs_chain h2).1, hs⟩ ?_ ?_
    · rintro x' y K2 ⟨a, rfl, rfl, -, hs⟩
      exact b_no (nextS h1 hx (hK ⟨a, rfl, rfl, hx.2.2.2, hs⟩))
    · rintro y l2 x' _ K2 ⟨a, rfl, rfl, hy, hs⟩ hK2
      have px := pop_le x
      have py := pop_le y
      refine ⟨fun z => absurd z (nz64 hy.2.1 hy.1), fun _ => many_spec hx.2.1 (many_spec hy.2.1 (pk_ne (pop6 x) (pop6 y) (fun c => ?_) (fun c => nextS h2 hy (hK2 ⟨a, rfl, rfl, hy.2.2.2, ?_⟩))))⟩
      · rw [inG_yes _ _ _ _ c, List.cons_append, List.map_cons, List.sum_cons] at hs
        rw [fa_or, fa_or]
        refine weight_spec (Nat.or_lt_two_pow (n := 6) h1 h2) (Nat.or_lt_two_pow (n := 6) hx.2.1 hy.2.1) hT (fun x27 e27 => nextS h2 hy (hK2 ⟨a + W (x, y), ?_, rfl, hy.2.2.2, by omega⟩))
        rw [e27, lN_add, hW]
      · rw [inG_no _ _ _ _ c] at hs; exact hs
theorem s_even : S_even := by
  intro p0 p1 lst lf lwa lsa ab be cl ctn ce mf mat mw mtn lr lt lsz lw ls lrow sea ssz sst scf shl mr mt mho mfl mh ms mmade hD hRC hz
  obtain ⟨n, r, t, h, w, b, HF, HO, HI, s, hC, -⟩ := hD
  obtain ⟨hg, hr, elf, em, er, emr, elst, hwa, hsa⟩ := hC.st
  have hN := hC.now
  have hn6 := hg.1
  have hn2 : 2 ≤ n := hC.1.1
  obtain ⟨T, hT⟩ := hRC
  have hT1 : ∀ k, k < 6 → T k ≤ 10 ∧ ctn k = nI (T k) := fun k hk => ⟨(hT k hk).1, (hT k hk).2.1⟩
  have hT2 : ∀ k, k < 6 → T k ≤ 10 ∧ mtn k = nI (T k) := fun k hk => ⟨(hT k hk).1, (hT k hk).2.2⟩
  subst elf em elst
  unfold wp_X10_even wp_X11_even
  rcases floor_cases (by omega) hn6 p0 with ⟨f, hf, rfl⟩ | hb
  rotate_left
  · exact hf_out hb (b_no' (nf_out (by omega) hn6 hb (b_yes rfl)))
  have h1 := outM_lt w s f
  have h2 := inM_lt s f
  have hd := out_in_dis w s (f := f) (by omega)
  have hten := ten_eq h1 h2 hd
  have hsum := evsum_eq (T := T) h1 h2 hd
  have hle := like_le (T := T) (ml := outM w s f) (me := inM s f) (fun k hk => (hT k hk).1)
  unfold wp_X5_mayLeave wp_X5_mayEnter
  refine hf_in hn6 hf (b_yes' (mayLeave_enc (t := t) (b := b) hg hr (by omega) (hwa f (by omega)) (mayEnter_enc (t := t) (w := w) hg hr hf (hsa f (by omega)) (weigh_spec h1 h2 hd hT1 (fun u v => ?_)))))
  generalize hml : outM w s f = ml at *
  generalize hme : inM s f = me at *
  have tp : 0 < tenN (ml ||| me) := by
    apply Nat.pos_of_ne_zero
    intro z
    rw [z, Nat.mul_zero] at hten
    omega
  have s6 : likeN T ml me * tenN (ml ||| me) ≤ 1000000 := by
    rw [← hten]; exact Nat.mul_le_mul_right _ hle
  have eg : Nat.gcd (likeN T ml me * tenN (ml ||| me)) 1000000 = Nat.gcd (10 ^ pop6 ml * 10 ^ pop6 me) (likeN T ml me) * tenN (ml ||| me) := by
    rw [← hten, Nat.gcd_mul_right, Nat.gcd_comm (likeN T ml me)]
  have ev : ∀ v : Int64, (p1 = 0 → v = lN (10 ^ pop6 ml * 10 ^ pop6 me / Nat.gcd (10 ^ pop6 ml * 10 ^ pop6 me) (likeN T ml me))) → (¬ p1 = 0 → v = lN (likeN T ml me / Nat.gcd (10 ^ pop6 ml * 10 ^ pop6 me) (likeN T ml me))) → wp_X11_noFloor (nI f) (nI n) (fun r_1 => ((r_1 = 0 → (wp_X11_mayOf (nI f) (1 : Int32) 6 mat mw (fun r_3 => (wp_X11_mayOf (nI f) (0 : Int32) 6 mat mw (fun r_4 => (wp_X11_next (0 : Int32) r_3 (fun r_5 => (kl2 (fun (x_6 : Int64) (x_7 : Int32) K50 => ((x_7 = 0 → (kl2 (fun (x_9 : Int64) (x_10 : Int64) K135 => (((lg_cmp x_10 (0 : Int64)) = 0 → ((p1 = 0 → (¬ x_9 = 0 ∧ v = ((1000000 : Int64) / x_9))) ∧ (¬ p1 = 0 → (¬ x_9 = 0 ∧ v = (x_6 / x_9))))) ∧ (¬ (lg_cmp x_10 (0 : Int64)) = 0 → (¬ x_10 = 0 ∧ (∀ x_16 : Int64, x_16 = (x_9 - x_9 / x_10 * x_10) → K135 x_10 x_16))))) x_6 (1000000 : Int64))) ∧ (¬ x_7 = 0 → (wp_X11_next (0 : Int32) r_4 (fun r_17 => (kl2 (fun (x_18 : Int64) (x_19 : Int32) K63 => ((x_19 = 0 → (wp_X11_next x_7 r_3 (fun r_21 => K50 x_18 r_21))) ∧ (¬ x_19 = 0 → (wp_X11_many x_7 (fun r_22 => (wp_X11_many x_19 (fun r_23 => ((¬ r_22 = r_23 → (wp_X11_next x_19 r_4 (fun r_25 => K63 x_18 r_25))) ∧ (r_22 = r_23 → (wp_X11_weight (r_3 ||| r_4) (x_7 ||| x_19) mtn (fun r_26 => (∀ x_27 : Int64, x_27 = (x_18 + r_26) → (wp_X11_next x_19 r_4 (fun r_28 => K63 x_27 r_28)))))))))))))) x_6 r_17)))))) (0 : Int64) r_5)))))))) ∧ (¬ r_1 = 0 → v = (-1 : Int64)))) := by
    intro v hv0 hv1
    refine nf_in hn6 hf (b_no (mayOf_spec hg hr (by omega) hN.2.2.1 hN.2.2.2.1 ?_))
    rw [if_neg (by decide), hml]
    refine mayOf_spec hg hr (by omega) hN.2.2.1 hN.2.2.2.1 ?_
    rw [if_pos rfl, hme]
    refine mevsum (T := T) h1 h2 hT2 (Q := fun x_6 => kl2 (fun (x_9 : Int64) (x_10 : Int64) K135 => (((lg_cmp x_10 (0 : Int64)) = 0 → ((p1 = 0 → (¬ x_9 = 0 ∧ v = ((1000000 : Int64) / x_9))) ∧ (¬ p1 = 0 → (¬ x_9 = 0 ∧ v = (x_6 / x_9))))) ∧ (¬ (lg_cmp x_10 (0 : Int64)) = 0 → (¬ x_10 = 0 ∧ (∀ x_16 : Int64, x_16 = (x_9 - x_9 / x_10 * x_10) → K135 x_10 x_16))))) x_6 (1000000 : Int64)) ?_
    rw [hsum]
    refine meuclid (P := fun x => v = x) s6 (fun c => ?_) (fun c => ?_)
    · rw [hv0 c, eg, ← Nat.mul_div_mul_right _ _ tp, hten]
    · rw [hv1 c, eg, Nat.mul_div_mul_right _ _ tp]
  unfold wp_X0_below wp_X0_above
  exact ⟨fun c => ev _ (fun _ => rfl) (fun z => absurd c z), fun c => ev _ (fun z => absurd z c) (fun _ => rfl)⟩
