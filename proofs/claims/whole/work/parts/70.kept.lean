/-! PURE ROWS: keep, again -/
theorem copy_spec {N : Nat} {f g : Nat → Int32} {P : (Nat → Int32) → Prop} (hN : N < 2 ^ 31) (hP : ∀ g', (∀ k, k < N → g' k = f k) → P g') : wp_X10_copy N N f g P := by
  unfold wp_X10_copy
  have e : (Int32.ofNat N) = nI N := rfl
  have z : (0 : Int32).toNatClampNeg = 0 := by decide
  rw [e, ite_self, z, nI_clamp hN]
  refine ⟨⟨by decide, by decide, nI_pos hN, by omega, by omega⟩, fun f2 e2 => hP f2 (fun k hk => ?_)⟩
  rw [e2, pk_cpy_in (Nat.zero_le _) (by omega)]
  congr 1; omega
theorem copyFrom_spec {a0 a1 a2 a3 a4 : Int32} {f1 g1 f2 g2 f3 g3 f4 g4 f5 g5 : Nat → Int32} {P : Int32 → Int32 → Int32 → Int32 → Int32 → (Nat → Int32) → (Nat → Int32) → (Nat → Int32) → (Nat → Int32) → (Nat → Int32) → Prop}
    (hP : ∀ u1 u2 u3 u4 u5, (∀ k, k < 4 → u1 k = f1 k) → (∀ k, k < 4 → u2 k = f2 k) → (∀ k, k < 6 → u3 k = f3 k) → (∀ k, k < 6 → u4 k = f4 k) → (∀ k, k < 24 → u5 k = f5 k) → P a0 a1 a2 a3 a4 u1 u2 u3 u4 u5) : wp_X5_copyFrom a0 a1 a2 a3 a4 f1 g1 f2 g2 f3 g3 f4 g4 f5 g5 P := by
  unfold wp_X5_copyFrom wp_X3_copyFrom
  exact copy_spec (by decide) (fun u1 h1 => copy_spec (by decide) (fun u2 h2 => copy_spec (by decide) (fun u3 h3 => copy_spec (by decide) (fun u4 h4 => copy_spec (by decide) (fun u5 h5 => hP u1 u2 u3 u4 u5 h1 h2 h3 h4 h5)))))
theorem fl_step {g A B : Nat → Int32} {C C' : Nat → Prop} [DecidablePred C] [DecidablePred C'] {c : Nat} {v : Int32} (hg : ∀ q, g q = if C q then A q else B q) (hv : v = A c) (h : ∀ q, C' q ↔ (C q ∨ q = c)) : ∀ q, upd g c v q = if C' q then A q else B q := by
  intro q
  by_cases e : q = c
  · subst e
    rw [pk_us, if_pos ((h q).mpr (Or.inr rfl)), hv]
  · rw [pk_un e, hg q]
    by_cases d : C q
    · rw [if_pos d, if_pos ((h q).mpr (Or.inl d))]
    · rw [if_neg d, if_neg (fun z => ((h q).mp z).elim d e)]
theorem core_cong {n r t h : Nat} {w b HF HO HI : Nat → Nat} {s : List Nat} {lf lr lt lst lsz : Int32} {lw ls lwa lsa lrow lw2 ls2 lwa2 lsa2 lrow2 : Nat → Int32} {mf mr mt mho mfl mh : Int32} {mat mw ms mmade mat2 mw2 ms2 mmade2 : Nat → Int32} (hC : Core n r t h w b HF HO HI s lf lr lt lst lsz lw ls lwa lsa lrow mf mr mt mho mfl mh mat mw ms mmade)
    (h1 : ∀ k, k < 4 → lw2 k = lw k) (h2 : ∀ k, k < 4 → ls2 k = ls k) (h3 : ∀ k, k < 6 → lwa2 k = lwa k) (h4 : ∀ k, k < 6 → lsa2 k = lsa k) (h5 : ∀ k, k < 24 → lrow2 k = lrow k)
    (h6 : ∀ k, k < 6 → mat2 k = mat k) (h7 : ∀ k, k < 4 → mw2 k = mw k) (h8 : ∀ k, k < 4 → ms2 k = ms k) (h9 : ∀ k, k < 96 → mmade2 k = mmade k) : Core n r t h w b HF HO HI s lf lr lt lst lsz lw2 ls2 lwa2 lsa2 lrow2 mf mr mt mho mfl mh mat2 mw2 ms2 mmade2 := by
  obtain ⟨hH, hS, hSt, hR, ⟨l1, l2, l3, l4, l5, l6, l7, l8⟩, a1, a2, a3, ⟨m1, m2, m3, m4, m5⟩, a4, a5, a6, a7, a8⟩ := hC
  have hr := hH.2.2.1
  have h24 := hR.1
  exact ⟨hH, hS, hSt, hR, ⟨l1, l2, l3, fun k hk => (h1 k (by omega)).trans (l4 k hk), fun k hk => (h2 k (by omega)).trans ∘ l5 k hk, fun k hk => (h2 k (by omega)).trans ∘ l6 k hk, fun k hk => (h3 k hk).trans (l7 k hk), fun k hk => (h4 k hk).trans (l8 k hk)⟩, a1, a2, fun i hi => (h5 i (by omega)).trans (a3 i hi),
    ⟨m1, m2, m3, fun k hk => (h7 k (by omega)).trans (m4 k hk), fun k hk => (h8 k (by omega)).trans ∘ m5 k hk⟩, fun k hk => (h6 k hk).trans (a4 k hk), a5, a6, a7, fun i hi => by
      obtain ⟨q0, q1, q2, q3⟩ := a8 i hi
      exact ⟨(h9 _ (by omega)).trans q0, (h9 _ (by omega)).trans q1, (h9 _ (by omega)).trans q2, (h9 _ (by omega)).trans q3⟩⟩
def cK (mmade mat mw ms : Nat → Int32) (a b c d e f : Int32) (i : Nat) : Int32 := if i < 96 then mmade i else if i < 102 then mat (i - 96) else if i < 106 then mw (i - 102) else if i < 110 then ms (i - 106) else if i = 110 then a else if i = 111 then b else if i = 112 then c else if i = 113 then d else if i = 114 then e else f
section KEEP
variable {j : Nat} {ik mmade kp mat mw ms : Nat → Int32} {a b c d e f : Int32}
theorem ix120 (hj : j < 2) {m i : Nat} (h : m + i < 120) : ((120 : Int32) * nI j + nI m) + nI i = nI (120 * j + (m + i)) := by
  rw [show (120 : Int32) * nI j = nI (120 * j) from pk_mul 120 j, nI_add, nI_add, Nat.add_assoc]
theorem ix120a (hj : j < 2) {i : Nat} (h : i < 120) : (120 : Int32) * nI j + nI i = nI (120 * j + i) := by
  rw [show (120 : Int32) * nI j = nI (120 * j) from pk_mul 120 j, nI_add]
theorem mkeep_spec (hj : j < 2) {P : Int32 → Int32 → (Nat → Int32) → (Nat → Int32) → Prop} (hP : ∀ kp2, (∀ q, kp2 q = if 120 * j ≤ q ∧ q < 120 * j + 116 then cK mmade mat mw ms a b c d e f (q - 120 * j) else kp q) → P (b + c) 0 (upd ik j 1) kp2) : wp_X11_keep (nI j) a b c d e f ik mmade kp mat mw ms P := by
  unfold wp_X11_keep
  have hcl : (nI j).toNatClampNeg = j := nI_clamp (by omega)
  refine in_011 hj (b_yes' ⟨vp_in_nI hj (by decide), fun f4 e4 => ?_⟩)
  rw [hcl, show vp_nar .boolean (1 : Int32) = 1 from by decide] at e4
  subst e4
  refine kc2 96 (fun i x g => x = nI i ∧ ∀ q, g q = if 120 * j ≤ q ∧ q < 120 * j + i then cK mmade mat mw ms a b c d e f (q - 120 * j) else kp q) ⟨rfl, fun q => by rw [if_neg (by omega)]⟩ ?_
  rintro i x g K hi ⟨rfl, hg⟩ hK
  refine pk_le 96 i (fun c1 => ?_) (fun c1 => ⟨vp_in_nI c1 (by decide), ?_⟩)
  rotate_left
  · rintro x41 rfl
    rw [ix120a hj (by omega), nI_clamp (by omega), nI_clamp (by omega)]
    refine ⟨vp_in_nI (by omega) (by decide), ?_⟩
    rintro f43 rfl x44 rfl
    refine hK c1 ⟨by rw [nI_1], fl_step hg ?_ (fun q => by omega)⟩
    unfold cK; rw [if_pos (by omega)]; congr 1; omega
  have : i = 96 := by omega
  subst this
  refine kc2 6 (fun i x g => x = nI i ∧ ∀ q, g q = if 120 * j ≤ q ∧ q < 120 * j + (96 + i) then cK mmade mat mw ms a b c d e f (q - 120 * j) else kp q) ⟨rfl, hg⟩ ?_
  clear hg hK
  rintro i x g K hi ⟨rfl, hg⟩ hK
  refine pk_le 6 i (fun c1 => ?_) (fun c1 => ⟨vp_in_nI c1 (by decide), ?_⟩)
  rotate_left
  · rintro x36 rfl
    rw [show (96 : Int32) = nI 96 from rfl, ix120 hj (by omega), nI_clamp (by omega), nI_clamp (by omega)]
    refine ⟨vp_in_nI (by omega) (by decide), ?_⟩
    rintro f38 rfl x39 rfl
    refine hK c1 ⟨by rw [nI_1], fl_step hg ?_ (fun q => by omega)⟩
    unfold cK; rw [if_neg (by omega), if_pos (by omega)]; congr 1; omega
  have : i = 6 := by omega
  subst this
  refine kc2 4 (fun i x g => x = nI i ∧ ∀ q, g q = if 120 * j ≤ q ∧ (q < 120 * j + (102 + i) ∨ (120 * j + 106 ≤ q ∧ q < 120 * j + (106 + i))) then cK mmade mat mw ms a b c d e f (q - 120 * j) else kp q) ⟨rfl, fun q => ?_⟩ ?_
  · rw [hg q]
    by_cases z : 120 * j ≤ q ∧ q < 120 * j + (96 + 6)
    · rw [if_pos z, if_pos (by omega)]
    · rw [if_neg z, if_neg (by omega)]
  clear hg hK
  rintro i x g K hi ⟨rfl, hg⟩ hK
  refine pk_le 4 i (fun c1 => ?_) (fun c1 => ⟨vp_in_nI c1 (by decide), ?_⟩)
  rotate_left
  · rintro x27 rfl
    rw [show (102 : Int32) = nI 102 from rfl, show (106 : Int32) = nI 106 from rfl, ix120 hj (by omega), ix120 hj (by omega), nI_clamp (by omega), nI_clamp (by omega), nI_clamp (by omega)]
    refine ⟨vp_in_nI (by omega) (by decide), ?_⟩
    rintro f29 rfl
    refine ⟨vp_in_nI c1 (by decide), ?_⟩
    rintro x31 rfl
    refine ⟨vp_in_nI (by omega) (by decide), ?_⟩
    rintro f33 rfl x34 rfl
    have h1 : ∀ q, upd g (120 * j + (102 + i)) (mw i) q = if 120 * j ≤ q ∧ (q < 120 * j + (102 + i + 1) ∨ (120 * j + 106 ≤ q ∧ q < 120 * j + (106 + i))) then cK mmade mat mw ms a b c d e f (q - 120 * j) else kp q := by
      refine fl_step hg ?_ (fun q => by omega)
      unfold cK; rw [if_neg (by omega), if_neg (by omega), if_pos (by omega)]; congr 1; omega
    refine hK c1 ⟨by rw [nI_1], fl_step h1 ?_ (fun q => by omega)⟩
    unfold cK; rw [if_neg (by omega), if_neg (by omega), if_neg (by omega), if_pos (by omega)]; congr 1; omega
  have : i = 4 := by omega
  subst this
  have hg : ∀ q, g q = if 120 * j ≤ q ∧ q < 120 * j + 110 then cK mmade mat mw ms a b c d e f (q - 120 * j) else kp q := by
    intro q
    rw [hg q]
    by_cases z : 120 * j ≤ q ∧ q < 120 * j + 110
    · rw [if_pos z, if_pos (by omega)]
    · rw [if_neg z, if_neg (by omega)]
  rw [show (120 : Int32) * nI j + (110 : Int32) = nI (120 * j + 110) from ix120a hj (by decide), show (120 : Int32) * nI j + (111 : Int32) = nI (120 * j + 111) from ix120a hj (by decide), show (120 : Int32) * nI j + (112 : Int32) = nI (120 * j + 112) from ix120a hj (by decide), show (120 : Int32) * nI j + (113 : Int32) = nI (120 * j + 113) from ix120a hj (by decide), show (120 : Int32) * nI j + (114 : Int32) = nI (120 * j + 114) from ix120a hj (by decide), show (120 : Int32) * nI j + (115 : Int32) = nI (120 * j + 115) from ix120a hj (by decide),
    nI_clamp (by omega), nI_clamp (by omega), nI_clamp (by omega), nI_clamp (by omega), nI_clamp (by omega), nI_clamp (by omega)]
  have st : ∀ {m : Nat} {g : Nat → Int32} {v : Int32}, (∀ q, g q = if 120 * j ≤ q ∧ q < 120 * j + m then cK mmade mat mw ms a b c d e f (q - 120 * j) else kp q) → v = cK mmade mat mw ms a b c d e f m → ∀ q, upd g (120 * j + m) v q = if 120 * j ≤ q ∧ q < 120 * j + (m + 1) then cK mmade mat mw ms a b c d e f (q - 120 * j) else kp q := by
    intro m g v hg hv
    exact fl_step hg (by rw [hv]; congr 1; omega) (fun q => by omega)
  refine ⟨vp_in_nI (by omega) (by decide), ?_⟩
  rintro f15 rfl
  refine ⟨vp_in_nI (by omega) (by decide), ?_⟩
  rintro f17 rfl
  refine ⟨vp_in_nI (by omega) (by decide), ?_⟩
  rintro f19 rfl
  refine ⟨vp_in_nI (by omega) (by decide), ?_⟩
  rintro f21 rfl
  refine ⟨vp_in_nI (by omega) (by decide), ?_⟩
  rintro f23 rfl
  refine ⟨vp_in_nI (by omega) (by decide), ?_⟩
  rintro f25 rfl
  exact hP _ (st (st (st (st (st (st hg rfl) rfl) rfl) rfl) rfl) rfl)
theorem magain_spec (hj : j < 2) (hk : ik j = 1) {P : Int32 → Int32 → Int32 → Int32 → Int32 → Int32 → Int32 → Int32 → (Nat → Int32) → (Nat → Int32) → (Nat → Int32) → (Nat → Int32) → Prop}
    (hP : ∀ u1 u2 u3 u4, (∀ k, k < 96 → u1 k = kp (120 * j + k)) → (∀ k, k < 6 → u2 k = kp (120 * j + 96 + k)) → (∀ k, k < 4 → u3 k = kp (120 * j + 102 + k)) → (∀ k, k < 4 → u4 k = kp (120 * j + 106 + k)) → P (kp (120 * j + 111) + kp (120 * j + 112)) 0 (kp (120 * j + 110)) (kp (120 * j + 111)) (kp (120 * j + 112)) (kp (120 * j + 113)) (kp (120 * j + 114)) (kp (120 * j + 115)) u1 u2 u3 u4) : wp_X11_again (nI j) a b c d e f ik kp mmade mat mw ms P := by
  unfold wp_X11_again
  have hcl : (nI j).toNatClampNeg = j := nI_clamp (by omega)
  refine in_011 hj (b_yes' ⟨vp_in_nI hj (by decide), fun _ => ?_, fun z => ?_⟩)
  rotate_left
  · rw [hcl, hk] at z
    exact absurd z (by decide)
  refine kc2 96 (fun i x g => x = nI i ∧ ∀ q, g q = if q < i then (fun q => kp (120 * j + q)) q else mmade q) ⟨rfl, fun q => by rw [if_neg (by omega)]⟩ ?_
  rintro i x g K hi ⟨rfl, hg⟩ hK
  refine pk_le 96 i (fun c1 => ?_) (fun c1 => ?_)
  rotate_left
  · rw [ix120a hj (by omega), nI_clamp (by omega), nI_clamp (by omega)]
    refine ⟨vp_in_nI (by omega) (by decide), ?_⟩
    rintro x42 rfl
    refine ⟨vp_in_nI c1 (by decide), ?_⟩
    rintro f44 rfl x45 rfl
    exact hK c1 ⟨by rw [nI_1], fl_step hg rfl (fun q => by omega)⟩
  have : i = 96 := by omega
  subst this
  have h1 : ∀ k, k < 96 → g k = kp (120 * j + k) := fun k hk => by rw [hg k, if_pos hk]
  refine kc2 6 (fun i x g => x = nI i ∧ ∀ q, g q = if q < i then (fun q => kp (120 * j + 96 + q)) q else mat q) ⟨rfl, fun q => by rw [if_neg (by omega)]⟩ ?_
  clear hg hK
  rintro i x g2 K hi ⟨rfl, hg⟩ hK
  refine pk_le 6 i (fun c1 => ?_) (fun c1 => ?_)
  rotate_left
  · rw [show (96 : Int32) = nI 96 from rfl, ix120 hj (by omega), nI_clamp (by omega), nI_clamp (by omega)]
    refine ⟨vp_in_nI (by omega) (by decide), ?_⟩
    rintro x37 rfl
    refine ⟨vp_in_nI c1 (by decide), ?_⟩
    rintro f39 rfl x40 rfl
    exact hK c1 ⟨by rw [nI_1], fl_step hg (by show _ = kp _; congr 1; omega) (fun q => by omega)⟩
  have : i = 6 := by omega
  subst this
  have h2 : ∀ k, k < 6 → g2 k = kp (120 * j + 96 + k) := fun k hk => by rw [hg k, if_pos hk]
  refine kc3 4 (fun i x g g' => x = nI i ∧ (∀ q, g q = if q < i then (fun q => kp (120 * j + 102 + q)) q else mw q) ∧ ∀ q, g' q = if q < i then (fun q => kp (120 * j + 106 + q)) q else ms q) ⟨rfl, fun q => by rw [if_neg (by omega)], fun q => by rw [if_neg (by omega)]⟩ ?_
  clear hg hK
  rintro i x g3 g4 K hi ⟨rfl, hg, hg'⟩ hK
  refine pk_le 4 i (fun c1 => ?_) (fun c1 => ?_)
  rotate_left
  · rw [show (102 : Int32) = nI 102 from rfl, show (106 : Int32) = nI 106 from rfl, ix120 hj (by omega), ix120 hj (by omega), nI_clamp (by omega), nI_clamp (by omega), nI_clamp (by omega)]
    refine ⟨vp_in_nI (by omega) (by decide), ?_⟩
    rintro x28 rfl
    refine ⟨vp_in_nI c1 (by decide), ?_⟩
    rintro f30 rfl
    refine ⟨vp_in_nI (by omega) (by decide), ?_⟩
    rintro x32 rfl
    refine ⟨vp_in_nI c1 (by decide), ?_⟩
    rintro f34 rfl x35 rfl
    exact hK c1 ⟨by rw [nI_1], fl_step hg (by show _ = kp _; congr 1; omega) (fun q => by omega), fl_step hg' (by show _ = kp _; congr 1; omega) (fun q => by omega)⟩
  have : i = 4 := by omega
  subst this
  have h3 : ∀ k, k < 4 → g3 k = kp (120 * j + 102 + k) := fun k hk => by rw [hg k, if_pos hk]
  have h4 : ∀ k, k < 4 → g4 k = kp (120 * j + 106 + k) := fun k hk => by rw [hg' k, if_pos hk]
  rw [show (120 : Int32) * nI j + (110 : Int32) = nI (120 * j + 110) from ix120a hj (by decide), show (120 : Int32) * nI j + (111 : Int32) = nI (120 * j + 111) from ix120a hj (by decide), show (120 : Int32) * nI j + (112 : Int32) = nI (120 * j + 112) from ix120a hj (by decide), show (120 : Int32) * nI j + (113 : Int32) = nI (120 * j + 113) from ix120a hj (by decide), show (120 : Int32) * nI j + (114 : Int32) = nI (120 * j + 114) from ix120a hj (by decide), show (120 : Int32) * nI j + (115 : Int32) = nI (120 * j + 115) from ix120a hj (by decide),
    nI_clamp (by omega), nI_clamp (by omega), nI_clamp (by omega), nI_clamp (by omega), nI_clamp (by omega), nI_clamp (by omega)]
  refine ⟨vp_in_nI (by omega) (by decide), ?_⟩
  rintro x16 rfl
  refine ⟨vp_in_nI (by omega) (by decide), ?_⟩
  rintro x18 rfl
  refine ⟨vp_in_nI (by omega) (by decide), ?_⟩
  rintro x20 rfl
  refine ⟨vp_in_nI (by omega) (by decide), ?_⟩
  rintro x22 rfl
  refine ⟨vp_in_nI (by omega) (by decide), ?_⟩
  rintro x24 rfl
  refine ⟨vp_in_nI (by omega) (by decide), ?_⟩
  rintro x26 rfl
  exact hP _ _ _ _ h1 h2 h3 h4
end KEEP
theorem RK1.cong {j : Nat} {ik ik2 kp kp2 : Nat → Int32} {o : Option KD} (h : RK1 j ik kp o) (h1 : ik2 j = ik j) (h2 : ∀ q, 120 * j ≤ q → q < 120 * j + 116 → kp2 q = kp q) : RK1 j ik2 kp2 o := by
  cases o with
  | none => exact h1.trans h
  | some d =>
    obtain ⟨e, n, r, t, hh, w, b, HF, HO, HI, s, hC⟩ := h
    refine ⟨h1.trans e, n, r, t, hh, w, b, HF, HO, HI, s, ?_⟩
    rw [h2 _ (by omega) (by omega), h2 _ (by omega) (by omega), h2 _ (by omega) (by omega), h2 _ (by omega) (by omega), h2 _ (by omega) (by omega), h2 _ (by omega) (by omega)]
    exact core_cong hC (fun _ _ => rfl) (fun _ _ => rfl) (fun _ _ => rfl) (fun _ _ => rfl) (fun _ _ => rfl) (fun k hk => h2 _ (by omega) (by omega)) (fun k hk => h2 _ (by omega) (by omega)) (fun k hk => h2 _ (by omega) (by omega)) (fun k hk => h2 _ (by omega) (by omega))
/-- what keep leaves -/
theorem keep_rel {j : Nat} {ik kp kp2 : Nat → Int32} {d : KD} {lf lr lt lst lsz : Int32} {lw ls lwa lsa lrow : Nat → Int32} {sea ssz : Int32} {sst scf shl : Nat → Int32} {mf mr mt mho mfl mh : Int32} {mat mw ms mmade : Nat → Int32} (hD : RD lf lr lt lst lsz lw ls lwa lsa lrow sea ssz sst scf shl mf mr mt mho mfl mh mat mw ms mmade)
    (hkp : ∀ q, kp2 q = if 120 * j ≤ q ∧ q < 120 * j + 116 then cK mmade mat mw ms mf mr mt mho mfl mh (q - 120 * j) else kp q)
    (d0 : d.2.1 0 = lst) (d1 : d.2.1 1 = lsz) (d2 : d.2.1 2 = lf) (d3 : d.2.1 3 = lr) (d4 : d.2.1 4 = lt)
    (h1 : ∀ k, k < 4 → d.2.2 1 k = lw k) (h2 : ∀ k, k < 4 → d.2.2 2 k = ls k) (h3 : ∀ k, k < 6 → d.2.2 3 k = lwa k) (h4 : ∀ k, k < 6 → d.2.2 4 k = lsa k) (h5 : ∀ k, k < 24 → d.2.2 0 k = lrow k) : RK1 j (upd ik j 1) kp2 (some d) := by
  obtain ⟨n, r, t, h, w, b, HF, HO, HI, s, hC, -⟩ := hD
  refine ⟨pk_us, n, r, t, h, w, b, HF, HO, HI, s, ?_⟩
  have at_ : ∀ m, m < 116 → kp2 (120 * j + m) = cK mmade mat mw ms mf mr mt mho mfl mh m := fun m hm => by
    rw [hkp, if_pos (by omega)]; congr 1; omega
  rw [d0, d1, d2, d3, d4, at_ 110 (by decide), at_ 111 (by decide), at_ 112 (by decide), at_ 113 (by decide), at_ 114 (by decide), at_ 115 (by decide)]
  refine core_cong hC h1 h2 h3 h4 h5 (fun k hk => ?_) (fun k hk => ?_) (fun k hk => ?_) (fun k hk => ?_)
  · show kp2 (120 * j + 96 + k) = _
    rw [Nat.add_assoc, at_ _ (by omega)]
    unfold cK; rw [if_neg (by omega), if_pos (by omega)]; congr 1; omega
  · show kp2 (120 * j + 102 + k) = _
    rw [Nat.add_assoc, at_ _ (by omega)]
    unfold cK; rw [if_neg (by omega), if_neg (by omega), if_pos (by omega)]; congr 1; omega
  · show kp2 (120 * j + 106 + k) = _
    rw [Nat.add_assoc, at_ _ (by omega)]
    unfold cK; rw [if_neg (by omega), if_neg (by omega), if_neg (by omega), if_pos (by omega)]; congr 1; omega
  · show kp2 (120 * j + k) = _
    rw [at_ _ (by omega)]
    unfold cK; rw [if_pos (by omega)]
theorem RD.people {lf lr lt lst lsz : Int32} {lw ls lwa lsa lrow : Nat → Int32} {sea ssz : Int32} {sst scf shl : Nat → Int32} {mf mr mt mho mfl mh : Int32} {mat mw ms mmade : Nat → Int32} (h : RD lf lr lt lst lsz lw ls lwa lsa lrow sea ssz sst scf shl mf mr mt mho mfl mh mat mw ms mmade) : lr + lt = mr + mt := by
  obtain ⟨n, r, t, h, w, b, HF, HO, HI, s, ⟨-, -, -, -, hL, -, -, -, hM, -⟩, -⟩ := h
  rw [hL.2.1, hL.2.2.1, hM.2.1, hM.2.2.1]
theorem keep_other {j i : Nat} {ik kp kp2 : Nat → Int32} {o : Option KD} {A : Nat → Int32} (hne : i ≠ j) (hkp : ∀ q, kp2 q = if 120 * j ≤ q ∧ q < 120 * j + 116 then A (q - 120 * j) else kp q) (h : RK1 i ik kp o) : RK1 i (upd ik j 1) kp2 o :=
  h.cong (pk_un hne) (fun q h1 h2 => by rw [hkp, if_neg (by omega)])
theorem s_keepN0 : S_keepN0 := by
  intro p0 lst lsz lf lr lt lw ls lwa lsa lrow mf mr mt mho mfl mh ik mmade kp mat mw ms sea ssz sst scf shl fk hD k0 k1 hK hk hp
  subst hp
  unfold wp_X10_keepN
  refine ⟨vp_in_nI (n := 0) (by decide) (by decide), ?_⟩
  unfold wp_X5_init wp_X3_init
  refine copyFrom_spec (fun u1 u2 u3 u4 u5 h1 h2 h3 h4 h5 => ⟨vp_in_nI (n := 0) (by decide) (by decide), ?_⟩)
  unfold wp_X3_people
  refine mkeep_spec (j := 0) (by decide) (fun kp2 hkp => ⟨hD.people, keep_rel hD hkp rfl rfl rfl rfl rfl h1 h2 h3 h4 h5, keep_other (by decide) hkp hK.2.2.2.2⟩)
theorem s_keepN1 : S_keepN1 := by
  intro p0 lst lsz lf lr lt lw ls lwa lsa lrow mf mr mt mho mfl mh ik mmade kp mat mw ms sea ssz sst scf shl fk hD k0 k1 hK hk hp
  subst hp
  unfold wp_X10_keepN
  refine ⟨vp_in_nI (n := 1) (by decide) (by decide), ?_⟩
  unfold wp_X5_init wp_X3_init
  refine copyFrom_spec (fun u1 u2 u3 u4 u5 h1 h2 h3 h4 h5 => ⟨vp_in_nI (n := 1) (by decide) (by decide), ?_⟩)
  unfold wp_X3_people
  refine mkeep_spec (j := 1) (by decide) (fun kp2 hkp => ⟨hD.people, keep_other (by decide) hkp hK.2.2.2.1, keep_rel hD hkp rfl rfl rfl rfl rfl h1 h2 h3 h4 h5⟩)
theorem s_keepS0 : S_keepS0 := by
  intro p0 lst lsz lf lr lt lw ls lwa lsa lrow mf mr mt mho mfl mh ik mmade kp mat mw ms sea ssz sst scf shl fk hD k0 k1 hK d hk hp
  subst hp
  unfold wp_X10_keepS
  refine ⟨fun c => absurd c (by decide), fun _ => ⟨fun _ => ⟨vp_in_nI (n := 0) (by decide) (by decide), vp_in_nI (n := 0) (by decide) (by decide), ?_⟩, fun c => absurd (by decide) c⟩⟩
  refine copyFrom_spec (fun u1 u2 u3 u4 u5 h1 h2 h3 h4 h5 => ⟨vp_in_nI (n := 0) (by decide) (by decide), ?_⟩)
  unfold wp_X3_people
  refine mkeep_spec (j := 0) (by decide) (fun kp2 hkp => ⟨hD.people, keep_rel hD hkp rfl rfl rfl rfl rfl h1 h2 h3 h4 h5, keep_other (by decide) hkp hK.2.2.2.2⟩)
theorem s_keepS1 : S_keepS1 := by
  intro p0 lst lsz lf lr lt lw ls lwa lsa lrow mf mr mt mho mfl mh ik mmade kp mat mw ms sea ssz sst scf shl fk hD k0 k1 hK d hk hp
  subst hp
  unfold wp_X10_keepS
  refine ⟨fun c => absurd c (by decide), fun _ => ⟨fun _ => ⟨vp_in_nI (n := 1) (by decide) (by decide), vp_in_nI (n := 1) (by decide) (by decide), ?_⟩, fun c => absurd (by decide) c⟩⟩
  refine copyFrom_spec (fun u1 u2 u3 u4 u5 h1 h2 h3 h4 h5 => ⟨vp_in_nI (n := 1) (by decide) (by decide), ?_⟩)
  unfold wp_X3_people
  refine mkeep_spec (j := 1) (by decide) (fun kp2 hkp => ⟨hD.people, keep_other (by decide) hkp hK.2.2.2.1, keep_rel hD hkp rfl rfl rfl rfl rfl h1 h2 h3 h4 h5⟩)
theorem again_rel {j : Nat} {ik kp : Nat → Int32} {d : KD} (h : RK1 j ik kp (some d)) : ik j = 1 ∧ d.2.1 3 + d.2.1 4 = kp (120 * j + 111) + kp (120 * j + 112) ∧ ∀ {ssz : Int32} {sst scf shl v1 v2 v3 v4 v5 u1 u2 u3 u4 : Nat → Int32},
    (∀ k, k < 4 → v1 k = d.2.2 1 k) → (∀ k, k < 4 → v2 k = d.2.2 2 k) → (∀ k, k < 6 → v3 k = d.2.2 3 k) → (∀ k, k < 6 → v4 k = d.2.2 4 k) → (∀ k, k < 24 → v5 k = d.2.2 0 k) →
    (∀ k, k < 96 → u1 k = kp (120 * j + k)) → (∀ k, k < 6 → u2 k = kp (120 * j + 96 + k)) → (∀ k, k < 4 → u3 k = kp (120 * j + 102 + k)) → (∀ k, k < 4 → u4 k = kp (120 * j + 106 + k)) →
    RD (d.2.1 2) (d.2.1 3) (d.2.1 4) (d.2.1 0) (d.2.1 1) v1 v2 v3 v4 v5 0 ssz sst scf shl (kp (120 * j + 110)) (kp (120 * j + 111)) (kp (120 * j + 112)) (kp (120 * j + 113)) (kp (120 * j + 114)) (kp (120 * j + 115)) u2 u3 u4 u1 := by
  obtain ⟨e, n, r, t, hh, w, b, HF, HO, HI, s, hC⟩ := h
  refine ⟨e, ?_, fun h1 h2 h3 h4 h5 g1 g2 g3 g4 => ⟨n, r, t, hh, w, b, HF, HO, HI, s, core_cong hC h1 h2 h3 h4 h5 g2 g3 g4 g1, Or.inl rfl⟩⟩
  obtain ⟨-, -, -, -, hL, -, -, -, hM, -⟩ := hC
  rw [hL.2.1, hL.2.2.1, hM.2.1, hM.2.2.1]
theorem s_againS0 : S_againS0 := by
  intro p0 sea lst lsz lf lr lt lw ls lwa lsa lrow mf mr mt mho mfl mh ik kp mmade mat mw ms ssz sst scf shl fk hD k0 k1 hK d hk hp
  subst hp
  have h1 := hK.2.2.2.1
  rw [hk] at h1
  obtain ⟨e1, e2, hR⟩ := again_rel h1
  unfold wp_X10_againS
  refine ⟨fun c => absurd c (by decide), fun _ => ⟨fun _ => ⟨vp_in_nI (n := 0) (by decide) (by decide), ?_⟩, fun c => absurd (by decide) c⟩⟩
  refine copyFrom_spec (fun v1 v2 v3 v4 v5 h1 h2 h3 h4 h5 => ?_)
  unfold wp_X3_people
  exact magain_spec (j := 0) (by decide) e1 (fun u1 u2 u3 u4 g1 g2 g3 g4 => ⟨e2, hR h1 h2 h3 h4 h5 g1 g2 g3 g4⟩)
theorem s_againS1 : S_againS1 := by
  intro p0 sea lst lsz lf lr lt lw ls lwa lsa lrow mf mr mt mho mfl mh ik kp mmade mat mw ms ssz sst scf shl fk hD k0 k1 hK d hk hp
  subst hp
  have h1 := hK.2.2.2.2
  rw [hk] at h1
  obtain ⟨e1, e2, hR⟩ := again_rel h1
  unfold wp_X10_againS
  refine ⟨fun c => absurd c (by decide), fun _ => ⟨fun _ => ⟨vp_in_nI (n := 1) (by decide) (by decide), ?_⟩, fun c => absurd (by decide) c⟩⟩
  refine copyFrom_spec (fun v1 v2 v3 v4 v5 h1 h2 h3 h4 h5 => ?_)
  unfold wp_X3_people
  exact magain_spec (j := 1) (by decide) e1 (fun u1 u2 u3 u4 g1 g2 g3 g4 => ⟨e2, hR h1 h2 h3 h4 h5 g1 g2 g3 g4⟩)
