/-! PURE ROWS: the reference's numbers of states -/
def dgN (s : List Nat) (k : Nat) : Nat := if k < 4 then (if pz s k < 6 then 0 else if pz s k = 6 then 1 else 2) else (if pz s k = 8 then 0 else pz s k)
def codeP (s : List Nat) : Nat → Nat
  | 0 => 0
  | k + 1 => (if k < 4 then 3 else 7) * codeP s k + dgN s k
def codeN (s : List Nat) : Nat := codeP s 6
theorem dgN_lt {s : List Nat} (hz : PzOk s) {k : Nat} (hk : k < 6) : dgN s k < if k < 4 then 3 else 7 := by
  have := hz.2 k hk
  unfold dgN
  by_cases c : k < 4
  · rw [if_pos c, if_pos c]; split <;> (try split) <;> omega
  · rw [if_neg c, if_neg c]; split <;> omega
theorem codeP_lt {s : List Nat} (hz : PzOk s) : codeP s 4 < 81 ∧ codeP s 5 < 567 ∧ codeP s 6 < 3969 := by
  have d0 := dgN_lt hz (k := 0) (by decide)
  have d1 := dgN_lt hz (k := 1) (by decide)
  have d2 := dgN_lt hz (k := 2) (by decide)
  have d3 := dgN_lt hz (k := 3) (by decide)
  have d4 := dgN_lt hz (k := 4) (by decide)
  have d5 := dgN_lt hz (k := 5) (by decide)
  simp only [codeP]
  simp at d0 d1 d2 d3 d4 d5 ⊢
  omega
theorem codeN_lt {s : List Nat} (hz : PzOk s) : codeN s < 3969 := (codeP_lt hz).2.2
theorem codeP_le {s : List Nat} (hz : PzOk s) : ∀ k, k < 7 → codeP s k < 3969 := by
  have h := (codeP_lt hz).2.2
  have d : ∀ k, codeP s k ≤ codeP s (k + 1) := by
    intro k
    show codeP s k ≤ (if k < 4 then 3 else 7) * codeP s k + dgN s k
    split <;> omega
  intro k hk
  have d0 : codeP s 0 ≤ codeP s 1 := d 0
  have d1 : codeP s 1 ≤ codeP s 2 := d 1
  have d2 : codeP s 2 ≤ codeP s 3 := d 2
  have d3 : codeP s 3 ≤ codeP s 4 := d 3
  have d4 : codeP s 4 ≤ codeP s 5 := d 4
  have d5 : codeP s 5 ≤ codeP s 6 := d 5
  rcases (show k = 0 ∨ k = 1 ∨ k = 2 ∨ k = 3 ∨ k = 4 ∨ k = 5 ∨ k = 6 by omega) with rfl | rfl | rfl | rfl | rfl | rfl | rfl <;> omega
theorem code_spec {s : List Nat} (hz : PzOk s) {g : Nat → Int32} (hg : ∀ k, k < 6 → g k = nI (pz s k)) {P : Int32 → Prop} (hP : P (nI (codeN s))) : wp_X11_codeOf 6 g P := by
  unfold wp_X11_codeOf
  refine kc2 4 (fun j x y => y = nI j ∧ x = nI (codeP s j)) ⟨rfl, rfl⟩ ?_
  rintro j x y K hj ⟨rfl, rfl⟩ hK
  refine pk_le 4 j (fun c => ?_) (fun c => ?_)
  · have e : j = 4 := by omega
    subst e
    refine kc2 2 (fun i x y => y = nI (4 + i) ∧ x = nI (codeP s (4 + i))) ⟨rfl, rfl⟩ ?_
    clear hK
    rintro i x y K hi ⟨rfl, rfl⟩ hK
    refine pk_le 6 (4 + i) (fun c => ?_) (fun c => ⟨vp_in_nI (by omega) (by decide), ?_⟩)
    · have e : i = 2 := by omega
      subst e
      exact hP
    · have h9 := hz.2 (4 + i) (by omega)
      have ec : codeP s (4 + i + 1) = 7 * codeP s (4 + i) + dgN s (4 + i) := by
        show (if 4 + i < 4 then 3 else 7) * _ + _ = _
        rw [if_neg (by omega)]
      have ed : dgN s (4 + i) = if pz s (4 + i) = 8 then 0 else pz s (4 + i) := by unfold dgN; rw [if_neg (by omega)]
      rw [nI_clamp (by omega), hg (4 + i) (by omega)]
      refine pk_ne (pz s (4 + i)) 8 (fun c8 x12 e12 x13 e13 => hK (by omega) ⟨by rw [e13, nI_1, Nat.add_assoc], ?_⟩) (fun c8 => ⟨vp_in_nI (by omega) (by decide), fun x10 e10 x11 e11 => hK (by omega) ⟨by rw [e11, nI_1, Nat.add_assoc], ?_⟩⟩)
      · rw [e12, ← Nat.add_assoc, ec, ed, if_pos c8]
        rw [show (7 : Int32) = nI 7 from rfl, pk_mul]; exact nI_add _ 0
      · rw [e10, ← Nat.add_assoc, ec, ed, if_neg c8]
        rw [show (7 : Int32) = nI 7 from rfl, pk_mul, nI_add]
  · have h9 := hz.2 j (by omega)
    have ec : codeP s (j + 1) = 3 * codeP s j + dgN s j := by
      show (if j < 4 then 3 else 7) * _ + _ = _
      rw [if_pos c]
    have ed : dgN s j = if pz s j < 6 then 0 else if pz s j = 6 then 1 else 2 := by unfold dgN; rw [if_pos c]
    refine ⟨vp_in_nI (by omega) (by decide), ?_⟩
    rw [nI_clamp (by omega), hg j (by omega)]
    refine pk_le 6 (pz s j) (fun c6 => ⟨vp_in_nI (by omega) (by decide), pk_ne (pz s j) 6 (fun c7 x20 e20 x21 e21 => hK c ⟨by rw [e21, nI_1], ?_⟩) (fun c7 x18 e18 x19 e19 => hK c ⟨by rw [e19, nI_1], ?_⟩)⟩) (fun c6 x22 e22 x23 e23 => hK c ⟨by rw [e23, nI_1], ?_⟩)
    · rw [e20, ec, ed, if_neg (by omega), if_pos c7]
      rw [show (3 : Int32) = nI 3 from rfl, pk_mul]; exact nI_add _ 1
    · rw [e18, ec, ed, if_neg (by omega), if_neg c7]
      rw [show (3 : Int32) = nI 3 from rfl, pk_mul]; exact nI_add _ 2
    · rw [e22, ec, ed, if_pos c6]
      rw [show (3 : Int32) = nI 3 from rfl, pk_mul]; exact nI_add _ 0
/-- what the reference's cells say of a state that can come -/
def LayOk (s : List Nat) (at_ stands : Nat → Int32) : Prop := ∀ k, k < 6 → (at_ k = 8 ↔ pz s k = 8) ∧ (k < 4 → pz s k < 6 → stands k = nI (pz s k))
theorem codeP_div {s : List Nat} (hz : PzOk s) {k : Nat} (hk : k < 6) : codeP s (k + 1) % (if k < 4 then 3 else 7) = dgN s k ∧ codeP s (k + 1) / (if k < 4 then 3 else 7) = codeP s k := by
  have hd := dgN_lt hz hk
  show ((if k < 4 then 3 else 7) * codeP s k + dgN s k) % _ = _ ∧ ((if k < 4 then 3 else 7) * codeP s k + dgN s k) / _ = _
  by_cases c : k < 4
  · rw [if_pos c] at hd ⊢; omega
  · rw [if_neg c] at hd ⊢; omega
theorem lay_spec {s : List Nat} (hz : PzOk s) {at_ now stands : Nat → Int32} (hl : LayOk s at_ stands) {P : (Nat → Int32) → Prop} (hP : ∀ g, (∀ k, k < 6 → g k = nI (pz s k)) → P g) : wp_X11_lay (nI (codeN s)) at_ now stands P := by
  unfold wp_X11_lay
  refine kf3 6 (fun j x y g => j ≤ 6 ∧ y = dn j ∧ x = nI (codeP s j) ∧ ∀ i, j ≤ i → i < 6 → g i = nI (pz s i)) ⟨Nat.le_refl 6, rfl, rfl, fun i a c => by omega⟩ ?_
  rintro j x y g K ⟨hj, rfl, rfl, hg⟩ hK
  cases j with
  | zero => exact ⟨fun _ => hP g (fun k hk => hg k (Nat.zero_le k) hk), fun c => absurd dn_0 c⟩
  | succ j =>
    obtain ⟨c1, c2⟩ := codeP_div hz (k := j) (by omega)
    have h9 := hz.2 j (by omega)
    have hcp := codeP_le hz (j + 1) (by omega)
    obtain ⟨l1, l2⟩ := hl j (by omega)
    have next : ∀ (v : Int32) (x' : Int32) (g' : Nat → Int32), v = nI (pz s j) → x' = dn (j + 1) + (-1) → g' = upd g j v → K (nI (codeP s j)) x' g' := by
      rintro v x' g' rfl rfl rfl
      refine hK j _ _ _ (Nat.lt_succ_self j) ⟨by omega, dn_p j, rfl, fun i hi h6 => ?_⟩
      by_cases q : i = j
      · subst q; rw [pk_us]
      · rw [pk_un q]; exact hg i (by omega) h6
    refine ⟨fun c => absurd c (dn_s (by omega)), fun _ => ?_⟩
    show ((4 : Int32) ≤ nI j → _) ∧ (¬ (4 : Int32) ≤ nI j → _)
    refine pk_le 4 j (fun c4 => ?_) (fun c4 => ?_)
    · rw [if_neg (by omega)] at c1 c2
      have ed : dgN s j = if pz s j = 8 then 0 else pz s j := by unfold dgN; rw [if_neg (by omega)]
      rw [show (7 : Int32) = nI 7 from rfl, pk_rem (by omega) (by decide) (by decide), pk_div (by omega) (by decide) (by decide), c1, c2]
      rintro x6 rfl x7 rfl
      show vp_in (nI j) 6 ∧ _
      refine ⟨vp_in_nI (by omega) (by decide), fun n8 => ?_, fun y8 => ?_⟩
      · have n8 : pz s j ≠ 8 := fun z => n8 (by rw [show (dn (j + 1)).toNatClampNeg = j from nI_clamp (by omega)]; exact l1.mpr z)
        refine pk_lt j 4 (fun z => by omega) (fun _ => ⟨vp_in_nI (by omega) (by decide), fun g' e' x' ex => ?_⟩)
        refine next (nI (pz s j)) x' g' rfl ex ?_
        rw [e', show (dn (j + 1)).toNatClampNeg = j from nI_clamp (by omega), ed, if_neg n8]
      · have y8 : pz s j = 8 := l1.mp (by rw [show (dn (j + 1)).toNatClampNeg = j from nI_clamp (by omega)] at y8; exact y8)
        refine ⟨vp_in_nI (by omega) (by decide), fun g' e' x' ex => ?_⟩
        refine next (nI (pz s j)) x' g' rfl ex ?_
        rw [e', show (dn (j + 1)).toNatClampNeg = j from nI_clamp (by omega), y8]; rfl
    · rw [if_pos c4] at c1 c2
      have ed : dgN s j = if pz s j < 6 then 0 else if pz s j = 6 then 1 else 2 := by unfold dgN; rw [if_pos c4]
      have hd3 : dgN s j < 3 := by have := dgN_lt hz (k := j) (by omega); rw [if_pos c4] at this; exact this
      rw [show (3 : Int32) = nI 3 from rfl, pk_rem (by omega) (by decide) (by decide), pk_div (by omega) (by decide) (by decide), c1, c2]
      rintro x6 rfl x7 rfl
      show vp_in (nI j) 6 ∧ _
      refine ⟨vp_in_nI (by omega) (by decide), fun n8 => ?_, fun y8 => ?_⟩
      · have n8 : pz s j ≠ 8 := fun z => n8 (by rw [show (dn (j + 1)).toNatClampNeg = j from nI_clamp (by omega)]; exact l1.mpr z)
        refine pk_lt j 4 (fun _ => pk_ne (dgN s j) 0 (fun d0 => ⟨vp_in_nI c4 (by decide), fun x20 e20 => ⟨vp_in_nI (by omega) (by decide), fun g' e' x' ex => ?_⟩⟩) (fun d0 => pk_ne (dgN s j) 1 (fun d1 => ⟨vp_in_nI (by omega) (by decide), fun g' e' x' ex => ?_⟩) (fun d1 => ⟨vp_in_nI (by omega) (by decide), fun g' e' x' ex => ?_⟩))) (fun z => by omega)
        · have p6 : pz s j < 6 := by
            rw [ed] at d0
            by_cases q : pz s j < 6
            · exact q
            · rw [if_neg q] at d0; split at d0 <;> omega
          refine next x20 x' g' ?_ ex ?_
          · rw [e20, show (dn (j + 1)).toNatClampNeg = j from nI_clamp (by omega)]; exact l2 c4 p6
          · rw [e', show (dn (j + 1)).toNatClampNeg = j from nI_clamp (by omega)]
        · have p6 : pz s j = 6 := by
            rw [ed] at d1
            by_cases q : pz s j < 6
            · rw [if_pos q] at d1; omega
            · rw [if_neg q] at d1; split at d1 <;> omega
          refine next 6 x' g' (by rw [p6]; rfl) ex ?_
          rw [e', show (dn (j + 1)).toNatClampNeg = j from nI_clamp (by omega)]
        · have p7 : pz s j = 7 := by
            rw [ed] at d0 d1
            by_cases q : pz s j < 6
            · rw [if_pos q] at d0; omega
            · rw [if_neg q] at d0 d1
              by_cases q2 : pz s j = 6
              · rw [if_pos q2] at d1; omega
              · omega
          refine next 7 x' g' (by rw [p7]; rfl) ex ?_
          rw [e', show (dn (j + 1)).toNatClampNeg = j from nI_clamp (by omega)]
      · have y8 : pz s j = 8 := l1.mp (by rw [show (dn (j + 1)).toNatClampNeg = j from nI_clamp (by omega)] at y8; exact y8)
        refine ⟨vp_in_nI (by omega) (by decide), fun g' e' x' ex => ?_⟩
        refine next (nI (pz s j)) x' g' rfl ex ?_
        rw [e', show (dn (j + 1)).toNatClampNeg = j from nI_clamp (by omega), y8]; rfl
theorem codeP_inj {s s' : List Nat} (hz : PzOk s) (hz' : PzOk s') : ∀ k, k ≤ 6 → codeP s k = codeP s' k → ∀ i, i < k → dgN s i = dgN s' i
  | 0, _, _, i, hi => absurd hi (Nat.not_lt_zero i)
  | k + 1, hk, h, i, hi => by
    obtain ⟨a1, a2⟩ := codeP_div hz (k := k) (by omega)
    obtain ⟨b1, b2⟩ := codeP_div hz' (k := k) (by omega)
    rw [h] at a1 a2
    by_cases q : i = k
    · subst q; rw [← a1, b1]
    · exact codeP_inj hz hz' k (by omega) (by rw [← a2, b2]) i (by omega)
theorem codeN_inj {n r : Nat} {w b : Nat → Nat} {s0 s s' : List Nat} (h : StG n r b s) (h' : StG n r b s') (hk : Kin w s0 s) (hk' : Kin w s0 s') (e : codeN s = codeN s') : s = s' := by
  have hz := h.2.pz h.1
  have hz' := h'.2.pz h'.1
  have hd := codeP_inj hz hz' 6 (Nat.le_refl 6) e
  refine ext6 h.2.1 h'.2.1 (fun k hk6 => ?_)
  have dk := hd k hk6
  unfold dgN at dk
  by_cases c : k < 4
  · rw [if_pos c, if_pos c] at dk
    by_cases hr : k < r
    · have hn6 := h.1
      rcases h.2.2.1 k c hr with ⟨q, q2⟩ | q | q <;> rcases h'.2.2.1 k c hr with ⟨p, p2⟩ | p | p
      · rw [q, p]
      · rw [if_pos (by omega), if_neg (by omega), if_pos p] at dk; omega
      · rw [if_pos (by omega), if_neg (by omega), if_neg (by omega)] at dk; omega
      · rw [if_neg (by omega), if_pos q, if_pos (by omega)] at dk; omega
      · rw [q, p]
      · rw [if_neg (by omega), if_pos q, if_neg (by omega), if_neg (by omega)] at dk; omega
      · rw [if_neg (by omega), if_neg (by omega), if_pos (by omega)] at dk; omega
      · rw [if_neg (by omega), if_neg (by omega), if_neg (by omega), if_pos p] at dk; omega
      · rw [q, p]
    · rw [h.2.2.2.1 k c (by omega), h'.2.2.2.1 k c (by omega)]
  · rw [if_neg c, if_neg c] at dk
    have i8 := (hk.2.2 k (by omega) hk6).symm.trans (hk'.2.2 k (by omega) hk6)
    by_cases c8 : pz s k = 8
    · rw [c8, i8.mp c8]
    · rw [if_neg c8, if_neg (fun z => c8 (i8.mpr z))] at dk
      exact dk
/-- the state behind a halt -/
theorem behind_spec {n : Nat} {w : Nat → Nat} {s : List Nat} {f : Nat} {q : Nat × Nat} (hz : PzOk (chg s f q.1 q.2)) (hm : mv n w s f q) {before now : Nat → Int32} (hnow : ∀ k, k < 6 → now k = nI (pz s k)) {P : Int32 → (Nat → Int32) → Prop} (hP : ∀ g, P (nI (codeN (chg s f q.1 q.2))) g) : wp_X11_behind (nI f) (nI q.1) (nI q.2) before now P := by
  obtain ⟨l1, l2, -⟩ := mv_bits hm
  unfold wp_X11_behind
  refine kc2 6 (fun j x g => x = nI j ∧ ∀ k, k < j → g k = nI (pz s k)) ⟨rfl, fun k hk => absurd hk (Nat.not_lt_zero k)⟩ ?_
  rintro j x g K hj ⟨rfl, hg⟩ hK
  refine pk_le 6 j (fun c => ?_) (fun c => ⟨vp_in_nI c (by decide), fun x7 e7 => ⟨vp_in_nI c (by decide), fun g9 e9 x10 e10 => hK c ⟨by rw [e10, nI_1], fun k hk => ?_⟩⟩⟩)
  · have e : j = 6 := by omega
    subst e
    exact change_spec l1 l2 hg (fun g4 h4 => code_spec hz h4 (hP g4))
  · rw [nI_clamp (by omega)] at e7 e9
    rw [e9, e7, hnow j c]
    by_cases q : k = j
    · subst q; rw [pk_us]
    · rw [pk_un q]; exact hg k (by omega)
