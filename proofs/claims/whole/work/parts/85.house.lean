/-! PURE ROWS: fault, house -/
section READ
variable {c : Nat → Nat} {N : Nat} {fb : Nat → Int32}
theorem part_ok {n p : Nat} {D : PD} (hO : OkD n D) (hp : p < N) : ((partF c N n p D.1 D.2.1).1 = 0 → (partF c N n p D.1 D.2.1).2.1 ≤ p + 2) ∧ ((partF c N n p D.1 D.2.1).1 ≠ 0 → OkD n (nxtD (partF c N n p D.1 D.2.1) D) ∧ p < (partF c N n p D.1 D.2.1).2.1 ∧ (partF c N n p D.1 D.2.1).2.1 ≤ N) := by
  obtain ⟨r, t, w, b, s⟩ := D
  have hn2 : 2 ≤ n := hO.1.1
  have no : ∀ {q : PQ}, q.1 = 0 → q.2.1 ≤ p + 2 → (q.1 = 0 → q.2.1 ≤ p + 2) ∧ (q.1 ≠ 0 → OkD n (nxtD q (r, t, w, b, s)) ∧ p < q.2.1 ∧ q.2.1 ≤ N) := fun h0 h1 => ⟨fun _ => h1, fun z => absurd h0 z⟩
  have yes : ∀ {q : PQ}, q.1 ≠ 0 → OkD n (nxtD q (r, t, w, b, s)) → p < q.2.1 → q.2.1 ≤ N → (q.1 = 0 → q.2.1 ≤ p + 2) ∧ (q.1 ≠ 0 → OkD n (nxtD q (r, t, w, b, s)) ∧ p < q.2.1 ∧ q.2.1 ≤ N) := fun h0 h1 h2 h3 => ⟨fun z => absurd z h0, fun _ => ⟨h1, h2, h3⟩⟩
  have flt : ∀ {p f : Nat}, figP c N n p = some f → f < n ∧ p < N := fun h => by
    obtain ⟨a, -, d, -⟩ := figN_some h
    omega
  show ((partF c N n p r t).1 = 0 → (partF c N n p r t).2.1 ≤ p + 2) ∧ ((partF c N n p r t).1 ≠ 0 → OkD n (nxtD (partF c N n p r t) (r, t, w, b, s)) ∧ p < (partF c N n p r t).2.1 ∧ (partF c N n p r t).2.1 ≤ N)
  unfold partF
  by_cases e1 : c p = 73
  · rw [if_pos e1]
    by_cases hr : r < 4
    · rw [if_pos hr]
      unfold partI
      cases h : figP c N n (p + 1) with
      | none => exact no rfl (by show p + 1 ≤ p + 2; omega)
      | some v =>
        obtain ⟨a1, a2⟩ := flt h
        exact yes (by show (1 : Nat) ≠ 0; decide) (ok_rider hO hr a1 (Or.inr ⟨rfl, rfl⟩)) (by show p < p + 2; omega) (by show p + 2 ≤ N; omega)
    · rw [if_neg hr]; exact no rfl (by show p ≤ p + 2; omega)
  rw [if_neg e1]
  by_cases e2 : c p = 65
  · rw [if_pos e2]
    by_cases hr : r < 4
    · rw [if_pos hr]
      unfold partA
      cases h : figP c N n (p + 1) with
      | none => exact no rfl (by show p + 1 ≤ p + 2; omega)
      | some f =>
        obtain ⟨a1, a2⟩ := flt h
        cases h2 : figP c N n (p + 2) with
        | none => exact no rfl (Nat.le_refl _)
        | some v =>
          obtain ⟨b1, b2⟩ := flt h2
          show ((if v = f then (0, p + 2, 0, 0) else (2, p + 3, f, v) : PQ).1 = 0 → (if v = f then (0, p + 2, 0, 0) else (2, p + 3, f, v) : PQ).2.1 ≤ p + 2) ∧ ((if v = f then (0, p + 2, 0, 0) else (2, p + 3, f, v) : PQ).1 ≠ 0 → OkD n (nxtD (if v = f then (0, p + 2, 0, 0) else (2, p + 3, f, v) : PQ) (r, t, w, b, s)) ∧ p < (if v = f then (0, p + 2, 0, 0) else (2, p + 3, f, v) : PQ).2.1 ∧ (if v = f then (0, p + 2, 0, 0) else (2, p + 3, f, v) : PQ).2.1 ≤ N)
          by_cases q : v = f
          · rw [if_pos q]; exact no (q := (0, p + 2, 0, 0)) rfl (Nat.le_refl _)
          · rw [if_neg q]
            exact yes (q := (2, p + 3, f, v)) (by show (2 : Nat) ≠ 0; decide) (ok_rider hO hr b1 (Or.inl ⟨a1, rfl⟩)) (by show p < p + 3; omega) (by show p + 3 ≤ N; omega)
    · rw [if_neg hr]; exact no rfl (by show p ≤ p + 2; omega)
  rw [if_neg e2]
  by_cases e3 : c p = 83
  · rw [if_pos e3]
    by_cases ht : t < 2
    · rw [if_pos ht]
      unfold partS
      cases h : figP c N n (p + 1) with
      | none => exact no rfl (by show p + 1 ≤ p + 2; omega)
      | some f =>
        obtain ⟨a1, a2⟩ := flt h
        exact yes (by show (3 : Nat) ≠ 0; decide) (ok_str hO ht (Or.inl a1)) (by show p < p + 2; omega) (by show p + 2 ≤ N; omega)
    · rw [if_neg ht]; exact no rfl (by show p ≤ p + 2; omega)
  rw [if_neg e3]
  by_cases e4 : c p = 84
  · rw [if_pos e4]
    by_cases ht : t < 2
    · rw [if_pos ht]
      exact yes (by show (4 : Nat) ≠ 0; decide) (ok_str hO ht (Or.inr rfl)) (by show p < p + 1; omega) (by show p + 1 ≤ N; omega)
    · rw [if_neg ht]; exact no rfl (by show p ≤ p + 2; omega)
  · rw [if_neg e4]; exact no rfl (by show p ≤ p + 2; omega)
def D0 : PD := (0, 0, fun _ => 0, fun _ => 0, [8, 8, 8, 8, 8, 8])
theorem ok0 {n : Nat} (hn2 : 2 ≤ n) (hn6 : n ≤ 6) : OkD n D0 := by
  refine ⟨⟨hn2, hn6, by decide, by decide, fun k hk => absurd hk (Nat.not_lt_zero k)⟩, ⟨rfl, fun k _ hk => absurd hk (Nat.not_lt_zero k), fun k hk _ => ?_, fun k h4 h6 => ?_⟩, fun j hj => ?_⟩
  · rcases (show k = 0 ∨ k = 1 ∨ k = 2 ∨ k = 3 by omega) with rfl | rfl | rfl | rfl <;> rfl
  · rcases (show k = 4 ∨ k = 5 by omega) with rfl | rfl <;> exact Or.inr (Or.inr rfl)
  · rcases (show j = 0 ∨ j = 1 by omega) with rfl | rfl
    · exact ⟨fun _ => Nat.le_refl 0, fun _ => rfl⟩
    · exact ⟨fun _ => Nat.zero_le 1, fun _ => rfl⟩
theorem runF_ok {n : Nat} : ∀ (k p : Nat) (D : PD), OkD n D → OkD n (runF c N n k p D).2 ∧ ∀ q, (runF c N n k p D).1 = some q → q ≤ N + 1
  | 0, p, D, h => ⟨h, fun q hq => nomatch hq⟩
  | k + 1, p, D, h => by
    show OkD n (if N ≤ p then (none, D) else if (partF c N n p D.1 D.2.1).1 = 0 then (some (partF c N n p D.1 D.2.1).2.1, D) else runF c N n k (partF c N n p D.1 D.2.1).2.1 (nxtD (partF c N n p D.1 D.2.1) D) : Option Nat × PD).2 ∧ ∀ q, (if N ≤ p then (none, D) else if (partF c N n p D.1 D.2.1).1 = 0 then (some (partF c N n p D.1 D.2.1).2.1, D) else runF c N n k (partF c N n p D.1 D.2.1).2.1 (nxtD (partF c N n p D.1 D.2.1) D) : Option Nat × PD).1 = some q → q ≤ N + 1
    by_cases e : N ≤ p
    · rw [if_pos e]; exact ⟨h, fun q hq => nomatch hq⟩
    · rw [if_neg e]
      obtain ⟨a1, a2⟩ := part_ok (c := c) (N := N) h (by omega : p < N)
      by_cases z : (partF c N n p D.1 D.2.1).1 = 0
      · rw [if_pos z]
        refine ⟨h, fun q hq => ?_⟩
        have := a1 z
        have hq := Option.some.inj hq
        omega
      · rw [if_neg z]
        exact runF_ok k _ _ (a2 z).1
theorem runF_step {n k p : Nat} {D : PD} (h : p < N) : runF c N n (k + 1) p D = if (partF c N n p D.1 D.2.1).1 = 0 then (some (partF c N n p D.1 D.2.1).2.1, D) else runF c N n k (partF c N n p D.1 D.2.1).2.1 (nxtD (partF c N n p D.1 D.2.1) D) := if_neg (by omega)
theorem runF_end {n k p : Nat} {D : PD} (h : N ≤ p) : runF c N n k p D = (none, D) := by
  cases k with
  | zero => rfl
  | succ k => exact if_pos h
theorem fillI_spec {f : Nat → Int32} {v : Int32} {M : Nat} {P : (Nat → Int32) → Prop} (hM : M < 2 ^ 31) (hP : ∀ g, (∀ k, k < M → g k = v) → P g) : wp_J7_fill_53178 v M f P := by
  unfold wp_J7_fill_53178
  intro x1 e1
  have e1 : x1 = nI M := e1
  subst e1
  refine kc2 M (fun j x g => x = nI j ∧ ∀ k, k < j → g k = v) ⟨rfl, fun k h => absurd h (Nat.not_lt_zero k)⟩ ?_
  rintro j x g K hj ⟨rfl, hg⟩ hK
  refine pk_le M j (fun c => hP g (fun k hk => hg k (by omega))) (fun c => ⟨vp_in_nI c hM, fun f6 e6 x7 e7 => hK c ⟨by rw [e7, nI_1], fun k hk => ?_⟩⟩)
  rw [nI_clamp (by omega)] at e6
  rw [e6]
  by_cases q : k = j
  · subst q; rw [pk_us]
  · rw [pk_un q]; exact hg k (by omega)
/-- the text begins as a house does, with so many floors -/
def HeadOk (c : Nat → Nat) (N n : Nat) : Prop := 1 < N ∧ c 0 = 78 ∧ c 1 = 48 + n ∧ 2 ≤ n ∧ n ≤ 6
theorem cread_spec (hT : TxtOk c N fb) {a0 a1 a2 a3 a4 : Int32} {lwa lsa lw ls : Nat → Int32} {P : Int32 → Int32 → Int32 → Int32 → Int32 → Int32 → Int32 → (Nat → Int32) → (Nat → Int32) → (Nat → Int32) → (Nat → Int32) → Prop}
    (h0 : (N = 0 ∨ c 0 ≠ 78) → ∀ x1 x2 x3 x4 x5 x6 f1 f2 f3 f4, P 0 x1 x2 x3 x4 x5 x6 f1 f2 f3 f4) (h1 : 0 < N → c 0 = 78 → (∀ n, ¬ HeadOk c N n) → ∀ x1 x2 x3 x4 x5 x6 f1 f2 f3 f4, P 1 x1 x2 x3 x4 x5 x6 f1 f2 f3 f4)
    (h2 : ∀ n q, HeadOk c N n → (runF c N n 40 2 D0).1 = some q → ∀ x1 x2 x3 x4 x5 x6 f1 f2 f3 f4, P (nI q) x1 x2 x3 x4 x5 x6 f1 f2 f3 f4)
    (h3 : ∀ n, HeadOk c N n → (runF c N n 40 2 D0).1 = none → ∀ x1 lst lr lt lwa lsa lw ls, ClsD n (runF c N n 40 2 D0).2 lst lr lt lw ls lwa lsa → P (-9) x1 lst 0 (nI n) lr lt lwa lsa lw ls) : wp_X4_read (nI N) fb a0 a1 a2 a3 a4 lwa lsa lw ls P := by
  have hN := hT.1
  unfold wp_X4_read
  show wp_X9_byteAt (nI 0) _ _ _
  refine byte_spec hT (by decide) (fun p0 => ?_) (fun p0 => ⟨fun z => absurd z (by decide), fun _ => h0 (Or.inl (by omega)) _ _ _ _ _ _ _ _ _ _⟩)
  obtain ⟨c0, -⟩ := hT.2 0 p0
  refine pk_eq (c 0) 78 (fun e0 => ?_) (fun e0 => h0 (Or.inr e0) _ _ _ _ _ _ _ _ _ _)
  rintro x3 rfl
  show wp_X9_byteAt (nI 1) _ _ _
  have bad : (∀ n, ¬ HeadOk c N n) → ∀ {A : Prop}, P 1 1 a0 a1 a2 a3 a4 lwa lsa lw ls := fun h {_} => h1 p0 e0 h _ _ _ _ _ _ _ _ _ _
  refine byte_spec hT (by decide) (fun p1 => ?_) (fun p1 => ?_)
  rotate_left
  · rintro x5 rfl
    exact ⟨fun _ => bad (fun n h => by have := h.1; omega) (A := True), fun z => absurd (by decide) z⟩
  obtain ⟨c1, -⟩ := hT.2 1 p1
  rintro x5 e5
  rcases sub48 c1 with ⟨a1', a2'⟩ | ⟨a1', a2'⟩
  rotate_left
  · rw [← e5] at a2'
    refine ⟨fun _ => bad (fun n h => by have := h.2.2.1; omega) (A := True), fun z => ?_⟩
    exfalso
    rw [Int32.lt_iff_toInt_lt, show (0 : Int32).toInt = 0 from by decide] at a2'
    rw [Int32.lt_iff_toInt_lt, show (2 : Int32).toInt = 2 from by decide] at z
    omega
  rw [a2'] at e5
  subst e5
  refine pk_lt (c 1 - 48) 2 (fun q => bad (fun n h => by have := h.2.2; omega) (A := True)) (fun q2 => pk_le (c 1 - 48) 6 (fun q6 => ?_) (fun q => bad (fun n h => by have := h.2.2; omega) (A := True)))
  obtain ⟨n, hn⟩ : ∃ n, n = c 1 - 48 := ⟨_, rfl⟩
  rw [← hn]
  have hH : HeadOk c N n := ⟨p1, e0, by omega, by omega, by omega⟩
  have hn2 : 2 ≤ n := hH.2.2.2.1
  have hn6 : n ≤ 6 := hH.2.2.2.2
  rintro x8 rfl
  unfold wp_X5_empty wp_X3_empty
  refine fillI_spec (by decide) (fun f1 hf1 => fillI_spec (by decide) (fun f2 hf2 => ?_))
  have hz : bits4 (fun _ => false) = 0 := rfl
  have hC0 : ClsD n D0 13824 0 0 lw ls f1 f2 := by
    refine ⟨by decide, rfl, rfl, rfl, fun k hk => absurd hk (Nat.not_lt_zero k), fun k hk => absurd hk (Nat.not_lt_zero k), fun k hk => absurd hk (Nat.not_lt_zero k), fun f hf => ?_, fun f hf => ?_⟩
    · rw [hf1 f hf]
      have : bits4 (fun k => decide (k < D0.1) && D0.2.2.1 k == f) = bits4 fun _ => false := by
        congr 1
      rw [this, hz]; rfl
    · rw [hf2 f hf]
      have : bits4 (fun k => decide (k < D0.1) && D0.2.2.2.1 k == f) = bits4 fun _ => false := by
        congr 1
      rw [this, hz]; rfl
  refine kc9 40 (fun i x16 v17 v18 v19 v20 f21 f22 f23 f24 => ∃ p D, x16 = nI i ∧ v17 = nI p ∧ i + 2 ≤ p ∧ p ≤ N ∧ OkD n D ∧ ClsD n D v18 v19 v20 f23 f24 f21 f22 ∧ runF c N n (40 - i) p D = runF c N n 40 2 D0) ⟨2, D0, rfl, rfl, Nat.le_refl 2, by omega, ok0 hn2 hn6, hC0, rfl⟩ ?_
  rintro i x16 v17 v18 v19 v20 f21 f22 f23 f24 K hi ⟨p, D, rfl, rfl, hip, hpN, hO, hC, hrun⟩ hK
  refine pk_le 40 i (fun q => by omega) (fun q => ?_)
  unfold wp_X9_size
  refine pk_le N p (fun q3 => ?_) (fun q3 => ?_)
  · have e : runF c N n 40 2 D0 = (none, D) := hrun.symm.trans (runF_end q3)
    have hh := h3 n hH
    rw [e] at hh
    exact hh rfl _ _ _ _ _ _ _ _ hC
  · obtain ⟨o1, o2⟩ := part_ok (c := c) (N := N) hO q3
    rw [show 40 - i = (40 - (i + 1)) + 1 by omega, runF_step q3] at hrun
    refine cpart_spec hT hO hC q3 (fun z lst2 lr2 lt2 lw2 lwa2 ls2 lsa2 => b_no' ?_) (fun lst2 lr2 lt2 lw2 lwa2 ls2 lsa2 z hC2 => b_yes' (fun x38 e38 => hK q ⟨_, _, by rw [e38, nI_1], rfl, ?_, (o2 z).2.2, (o2 z).1, hC2, ?_⟩))
    · rw [if_pos z] at hrun
      exact h2 n _ hH (by rw [← hrun]) _ _ _ _ _ _ _ _ _ _
    · have := (o2 z).2.1; omega
    · rw [if_neg z] at hrun; exact hrun
/-! the reference's -/
theorem fig_spec (hT : TxtOk c N fb) {lo hi p : Nat} (hlo : lo ≤ 10) (hhi : hi ≤ 10) (hp : p ≤ N) {P : Int32 → Int32 → Prop} (h0 : figN c N lo hi p = none → P (-9) (nI p)) (h1 : ∀ f, figN c N lo hi p = some f → P (nI f) (nI (p + 1))) : wp_X11_figure (nI lo) (nI hi) (nI N) (nI p) fb P := by
  have hN := hT.1
  unfold wp_X11_figure
  refine pk_eq p N (fun e => h0 (if_neg (by omega))) (fun e => ⟨vp_in_nI (by omega) (by decide), ?_⟩)
  have hpN : p < N := by omega
  obtain ⟨hc, ec⟩ := hT.2 p hpN
  rw [nI_clamp (by omega), ec]
  have et : (nI (c p) - (48 : Int32)).toInt = (c p : Int) - 48 := pk_sub_toInt (b := 48) (by omega) (by decide)
  have iff : ((nI lo).toInt64 ≤ (nI (c p) - (48 : Int32)).toInt64 ∧ (nI (c p) - (48 : Int32)).toInt64 ≤ (nI hi).toInt64) ↔ (48 + lo ≤ c p ∧ c p ≤ 48 + hi) := by
    rw [Int64.le_iff_toInt_le, Int64.le_iff_toInt_le, i64_of, i64_of, i64_of, et, nI_toInt (by omega), nI_toInt (by omega)]
    omega
  refine in_spec (fun z => b_yes' ?_) (fun z => b_no' (h0 (if_neg (fun q => z (iff.mpr ⟨q.2.1, q.2.2⟩)))))
  obtain ⟨z1, z2⟩ := iff.mp z
  rintro x5 rfl
  rw [nI_1, nI_pred]
  rw [nI_clamp (by omega), ec, show nI (c p) - (48 : Int32) = nI (c p - 48) from pk_sub (b := 48) (by omega)]
  exact ⟨vp_in_nI (by omega) (by decide), h1 _ (if_pos ⟨hpN, z1, z2⟩)⟩
theorem RefD.rider {n r t : Nat} {w b : Nat → Nat} {s : List Nat} {rr rs : Int32} {ra rst rw_ : Nat → Int32} (h : RefD n (r, t, w, b, s) rr rs ra rst rw_) (hr : r < 4) {v g u x : Nat} (hg : g < n → x = g) : RefD n (r + 1, t, setN w r v, setN b r g, putS s r u) (nI (r + 1)) rs (upd ra r (nI u)) (upd rst r (nI x)) (upd rw_ r (nI v)) := by
  obtain ⟨-, e2, e3, e4, e5⟩ := h
  refine ⟨rfl, e2, fun k hk => ?_, fun k hk => ?_, fun k hk hb => ?_⟩
  · show upd ra r (nI u) k = nI (pz (putS s r u) k)
    rw [putS_pz _ _ _ _ hk]
    by_cases q : k = r
    · subst q; rw [pk_us, if_pos rfl]
    · rw [pk_un q, if_neg q]; exact e3 k hk
  · have hk : k < r + 1 := hk
    show upd rw_ r (nI v) k = nI (setN w r v k)
    by_cases q : k = r
    · subst q; rw [pk_us, setN_eq]
    · rw [pk_un q, setN_ne _ _ q]; exact e4 k (by show k < r; omega)
  · have hk : k < r + 1 := hk
    have hb : setN b r g k < n := hb
    show upd rst r (nI x) k = nI (setN b r g k)
    by_cases q : k = r
    · subst q
      rw [setN_eq] at hb ⊢
      rw [pk_us, hg hb]
    · rw [setN_ne _ _ q] at hb ⊢
      rw [pk_un q]; exact e5 k (by show k < r; omega) hb
theorem RefD.str {n r t : Nat} {w b : Nat → Nat} {s : List Nat} {rr rs : Int32} {ra rst rw_ : Nat → Int32} (h : RefD n (r, t, w, b, s) rr rs ra rst rw_) (ht : t < 2) {u : Nat} : RefD n (r, t + 1, w, b, putS s (4 + t) u) rr (nI (t + 1)) (upd ra (4 + t) (nI u)) rst rw_ := by
  obtain ⟨e1, -, e3, e4, e5⟩ := h
  refine ⟨e1, rfl, fun k hk => ?_, e4, e5⟩
  show upd ra (4 + t) (nI u) k = nI (pz (putS s (4 + t) u) k)
  rw [putS_pz _ _ _ _ hk]
  by_cases q : k = 4 + t
  · subst q; rw [pk_us, if_pos rfl]
  · rw [pk_un q, if_neg q]; exact e3 k hk
theorem mrider_spec (hT : TxtOk c N fb) {n p : Nat} {D : PD} {rr rs : Int32} {ra rst rw_ : Nat → Int32} (hO : OkD n D) (hR : RefD n D rr rs ra rst rw_) (hr : D.1 < 4) (hp : p < N) {p0 : Int32} {q : PQ} (hq : (p0 = 1 ∧ q = partI c N n p) ∨ (p0 = 0 ∧ q = partA c N n p))
    {P : Int32 → Int32 → Int32 → (Nat → Int32) → (Nat → Int32) → (Nat → Int32) → Prop} (h0 : q.1 = 0 → P 0 (nI q.2.1) rr ra rst rw_) (h1 : ∀ rr2 ra2 rst2 rw2, q.1 ≠ 0 → RefD n (nxtD q D) rr2 rs ra2 rst2 rw2 → P 1 (nI q.2.1) rr2 ra2 rst2 rw2) :
    wp_X11_readRider p0 (nI N) (nI (p + 1)) (nI n) rr fb ra rst rw_ P := by
  obtain ⟨r, t, w, b, s⟩ := D
  have hn2 : 2 ≤ n := hO.1.1
  have hn6 : n ≤ 6 := hO.1.2.1
  have hr : r < 4 := hr
  have er : rr = nI r := hR.1
  subst er
  have en : nI n - (1 : Int32) = nI (n - 1) := by rw [show (1 : Int32) = nI 1 from rfl, pk_sub (by omega)]
  have hcl : (nI r).toNatClampNeg = r := nI_clamp (by omega)
  have hN := hT.1
  have flt : ∀ {p f : Nat}, figP c N n p = some f → f < n ∧ p < N := fun h => by
    obtain ⟨a, -, d, -⟩ := figN_some h
    omega
  unfold wp_X11_readRider
  rw [en, hcl]
  rcases hq with ⟨rfl, rfl⟩ | ⟨rfl, rfl⟩
  · refine ⟨fun z => absurd z (by decide), fun _ => fig_spec (lo := 0) hT (by decide) (by omega) (by omega) (fun e => ?_) (fun f e => ?_)⟩
    · have eq : partI c N n p = (0, p + 1, 0, 0) := by unfold partI figP; rw [e]
      rw [eq] at h0
      exact ⟨fun _ => ⟨fun z => absurd rfl z, fun _ => h0 rfl⟩, fun z => absurd rfl z⟩
    · have hf := flt e
      have n9 := nI_n9 f (by omega)
      have eq : partI c N n p = (1, p + 2, 0, f) := by unfold partI figP; rw [e]
      rw [eq] at h1
      refine ⟨fun z => absurd z n9, fun _ => ⟨fun _ => ⟨fun _ => ⟨fun z => absurd z (by decide), fun _ => ⟨vp_in_nI (by omega) (by decide), ?_⟩⟩, fun z => absurd z n9⟩, fun z => absurd z (by decide)⟩⟩
      rintro g1 rfl
      refine ⟨vp_in_nI hr (by decide), ?_⟩
      rintro g2 rfl
      refine ⟨vp_in_nI hr (by decide), ?_⟩
      rintro g3 rfl x ex
      rw [nI_1] at ex
      subst ex
      exact h1 _ _ _ _ (by show (1 : Nat) ≠ 0; decide) (hR.rider hr (v := f) (g := 9) (u := 6) (x := 0) (fun z => by omega))
  · refine ⟨fun _ => fig_spec (lo := 0) hT (by decide) (by omega) (by omega) (fun e => ?_) (fun f e => ?_), fun z => absurd rfl z⟩
    · have eq : partA c N n p = (0, p + 1, 0, 0) := by unfold partA figP; rw [e]
      rw [eq] at h0
      exact ⟨fun z => absurd rfl z, fun _ => h0 rfl⟩
    · have hf := flt e
      refine ⟨fun _ => fig_spec (lo := 0) hT (by decide) (by omega) (by omega) (fun e2 => ?_) (fun v e2 => ?_), fun z => absurd z (nI_n9 f (by omega))⟩
      · have eq : partA c N n p = (0, p + 2, 0, 0) := by unfold partA figP; rw [e, e2]
        rw [eq] at h0
        exact ⟨fun _ => ⟨fun z => absurd rfl z, fun _ => h0 rfl⟩, fun z => absurd rfl z⟩
      · have hv := flt e2
        have n9 := nI_n9 v (by omega)
        refine ⟨fun z => absurd z n9, fun _ => ⟨fun z => absurd rfl z, fun _ => pk_ne v f (fun cv => ?_) (fun cv => ⟨fun _ => ⟨fun _ => ⟨vp_in_nI (by omega) (by decide), ?_⟩, fun z => absurd rfl z⟩, fun z => absurd z n9⟩)⟩⟩
        · have eq : partA c N n p = (0, p + 2, 0, 0) := by unfold partA figP; rw [e, e2]; exact if_pos cv
          rw [eq] at h0
          rintro x58 rfl
          rw [nI_pred]
          exact h0 rfl
        · have eq : partA c N n p = (2, p + 3, f, v) := by unfold partA figP; rw [e, e2]; exact if_neg cv
          rw [eq] at h1
          rintro g1 rfl
          refine ⟨vp_in_nI hr (by decide), ?_⟩
          rintro g2 rfl
          refine ⟨vp_in_nI hr (by decide), ?_⟩
          rintro g3 rfl x ex
          rw [nI_1] at ex
          subst ex
          exact h1 _ _ _ _ (by show (2 : Nat) ≠ 0; decide) (hR.rider hr (v := v) (g := f) (u := f) (x := f) (fun _ => rfl))
theorem mstr_spec (hT : TxtOk c N fb) {n p : Nat} {D : PD} {rr rs : Int32} {ra rst rw_ : Nat → Int32} (hO : OkD n D) (hR : RefD n D rr rs ra rst rw_) (ht : D.2.1 < 2) (hp : p < N) {p0 : Int32} {q : PQ} (hq : (p0 = 1 ∧ q = (4, p + 1, 0, 0)) ∨ (p0 = 0 ∧ q = partS c N n p))
    {P : Int32 → Int32 → Int32 → (Nat → Int32) → Prop} (h0 : q.1 = 0 → P 0 (nI q.2.1) rs ra) (h1 : ∀ rs2 ra2, q.1 ≠ 0 → RefD n (nxtD q D) rr rs2 ra2 rst rw_ → P 1 (nI q.2.1) rs2 ra2) :
    wp_X11_readStranger p0 (nI N) (nI (p + 1)) (nI n) rs fb ra P := by
  obtain ⟨r, t, w, b, s⟩ := D
  have hn2 : 2 ≤ n := hO.1.1
  have hn6 : n ≤ 6 := hO.1.2.1
  have ht : t < 2 := ht
  have es : rs = nI t := hR.2.1
  subst es
  have en : nI n - (1 : Int32) = nI (n - 1) := by rw [show (1 : Int32) = nI 1 from rfl, pk_sub (by omega)]
  have e4 : (4 : Int32) + nI t = nI (4 + t) := nI_add 4 t
  have hcl : (nI (4 + t)).toNatClampNeg = 4 + t := nI_clamp (by omega)
  have hN := hT.1
  unfold wp_X11_readStranger
  rw [en, e4, hcl]
  rcases hq with ⟨rfl, rfl⟩ | ⟨rfl, rfl⟩
  · refine ⟨fun z => absurd z (by decide), fun _ => ⟨vp_in_nI (by omega) (by decide), ?_⟩⟩
    rintro g1 rfl x ex
    rw [nI_1] at ex
    subst ex
    exact h1 _ _ (by show (4 : Nat) ≠ 0; decide) (hR.str ht (u := 6))
  · refine ⟨fun _ => fig_spec (lo := 0) hT (by decide) (by omega) (by omega) (fun e => ?_) (fun f e => ?_), fun z => absurd rfl z⟩
    · have eq : partS c N n p = (0, p + 1, 0, 0) := by unfold partS figP; rw [e]
      rw [eq] at h0
      exact ⟨fun z => absurd rfl z, fun _ => h0 rfl⟩
    · have eq : partS c N n p = (3, p + 2, f, 0) := by unfold partS figP; rw [e]
      rw [eq] at h1
      have hf := figN_some e
      refine ⟨fun _ => ⟨vp_in_nI (by omega) (by decide), ?_⟩, fun z => absurd z (nI_n9 f (by omega))⟩
      rintro g1 rfl x ex
      rw [nI_1] at ex
      subst ex
      exact h1 _ _ (by show (3 : Nat) ≠ 0; decide) (hR.str ht (u := f))
theorem mpart_spec (hT : TxtOk c N fb) {n p : Nat} {D : PD} {rr rs : Int32} {ra rst rw_ : Nat → Int32} (hO : OkD n D) (hR : RefD n D rr rs ra rst rw_) (hp : p < N)
    {P : Int32 → Int32 → Int32 → Int32 → (Nat → Int32) → (Nat → Int32) → (Nat → Int32) → Prop} (h0 : (partF c N n p D.1 D.2.1).1 = 0 → ∀ rr2 rs2 ra2 rst2 rw2, P 0 (nI (partF c N n p D.1 D.2.1).2.1) rr2 rs2 ra2 rst2 rw2)
    (h1 : ∀ rr2 rs2 ra2 rst2 rw2, (partF c N n p D.1 D.2.1).1 ≠ 0 → RefD n (nxtD (partF c N n p D.1 D.2.1) D) rr2 rs2 ra2 rst2 rw2 → P 1 (nI (partF c N n p D.1 D.2.1).2.1) rr2 rs2 ra2 rst2 rw2) :
    wp_X11_readPart (nI N) (nI p) (nI n) rr rs fb ra rst rw_ P := by
  have hN := hT.1
  obtain ⟨hc, ec⟩ := hT.2 p hp
  have er : rr = nI D.1 := hR.1
  have et : rs = nI D.2.1 := hR.2.1
  have hr4 : D.1 ≤ 4 := hO.1.2.2.1
  have ht2 : D.2.1 ≤ 2 := hO.1.2.2.2.1
  have no : partF c N n p D.1 D.2.1 = (0, p, 0, 0) → P 0 (nI p) rr rs ra rst rw_ := by
    intro e
    rw [e] at h0
    exact h0 rfl _ _ _ _ _
  have lit : ∀ k, k < 256 → c p = k → (nI (c p) = nI k) = True := fun k hk e => by rw [e]; simp
  have nlit : ∀ k, k < 256 → c p ≠ k → (nI (c p) = nI k) = False := fun k hk e => by
    rw [eq_iff_iff, nI_eq (by omega) (by omega)]
    exact ⟨fun z => absurd z e, False.elim⟩
  have go : ∀ x2 : Int32, x2 = nI (c p) → _ := fun x2 (e2 : x2 = nI (c p)) => e2
  unfold wp_X11_readPart
  refine ⟨vp_in_nI (by omega) (by decide), ?_⟩
  rw [nI_clamp (by omega), ec]
  rintro x2 rfl
  by_cases e1 : c p = 73
  · have f1 : (nI (c p) = (73 : Int32)) = True := lit 73 (by decide) e1
    have f2 : (nI (c p) = (65 : Int32)) = False := nlit 65 (by decide) (by omega)
    have f3 : (nI (c p) = (83 : Int32)) = False := nlit 83 (by decide) (by omega)
    have f4 : (nI (c p) = (84 : Int32)) = False := nlit 84 (by decide) (by omega)
    simp only [f1, f2, f3, f4, not_true_eq_false, not_false_eq_true, true_implies, false_implies, and_true, true_and]
    have ep : partF c N n p D.1 D.2.1 = if D.1 < 4 then partI c N n p else (0, p, 0, 0) := by unfold partF; rw [if_pos e1]
    rw [er]
    refine pk_le 4 D.1 (fun z => ?_) (fun z => ?_)
    · rw [← er]; exact no (ep.trans (if_neg (by omega)))
    · rw [← er]
      have ep := ep.trans (if_pos z)
      rw [ep] at h0 h1
      rintro x rfl
      rw [nI_1]
      exact mrider_spec hT hO hR z hp (Or.inl ⟨rfl, rfl⟩) (fun z => ⟨Or.inl rfl, h0 z _ _ _ _ _⟩) (fun _ _ _ _ z hR2 => ⟨Or.inr rfl, h1 _ _ _ _ _ z hR2⟩)
  by_cases e2 : c p = 65
  · have f1 : (nI (c p) = (73 : Int32)) = False := nlit 73 (by decide) e1
    have f2 : (nI (c p) = (65 : Int32)) = True := lit 65 (by decide) e2
    have f3 : (nI (c p) = (83 : Int32)) = False := nlit 83 (by decide) (by omega)
    have f4 : (nI (c p) = (84 : Int32)) = False := nlit 84 (by decide) (by omega)
    simp only [f1, f2, f3, f4, not_true_eq_false, not_false_eq_true, true_implies, false_implies, and_true, true_and]
    have ep : partF c N n p D.1 D.2.1 = if D.1 < 4 then partA c N n p else (0, p, 0, 0) := by unfold partF; rw [if_neg e1, if_pos e2]
    rw [er]
    refine pk_le 4 D.1 (fun z => ?_) (fun z => ?_)
    · rw [← er]; exact no (ep.trans (if_neg (by omega)))
    · rw [← er]
      have ep := ep.trans (if_pos z)
      rw [ep] at h0 h1
      rintro x rfl
      rw [nI_1]
      exact mrider_spec hT hO hR z hp (Or.inr ⟨rfl, rfl⟩) (fun z => ⟨Or.inl rfl, h0 z _ _ _ _ _⟩) (fun _ _ _ _ z hR2 => ⟨Or.inr rfl, h1 _ _ _ _ _ z hR2⟩)
  by_cases e3 : c p = 83
  · have f1 : (nI (c p) = (73 : Int32)) = False := nlit 73 (by decide) e1
    have f2 : (nI (c p) = (65 : Int32)) = False := nlit 65 (by decide) e2
    have f3 : (nI (c p) = (83 : Int32)) = True := lit 83 (by decide) e3
    have f4 : (nI (c p) = (84 : Int32)) = False := nlit 84 (by decide) (by omega)
    simp only [f1, f2, f3, f4, not_true_eq_false, not_false_eq_true, true_implies, false_implies, and_true, true_and]
    have ep : partF c N n p D.1 D.2.1 = if D.2.1 < 2 then partS c N n p else (0, p, 0, 0) := by unfold partF; rw [if_neg e1, if_neg e2, if_pos e3]
    rw [et]
    refine pk_le 2 D.2.1 (fun z => ?_) (fun z => ?_)
    · rw [← et]; exact no (ep.trans (if_neg (by omega)))
    · rw [← et]
      have ep := ep.trans (if_pos z)
      rw [ep] at h0 h1
      rintro x rfl
      rw [nI_1]
      exact mstr_spec hT hO hR z hp (Or.inr ⟨rfl, rfl⟩) (fun z => ⟨Or.inl rfl, h0 z _ _ _ _ _⟩) (fun _ _ z hR2 => ⟨Or.inr rfl, h1 _ _ _ _ _ z hR2⟩)
  by_cases e4 : c p = 84
  · have f1 : (nI (c p) = (73 : Int32)) = False := nlit 73 (by decide) e1
    have f2 : (nI (c p) = (65 : Int32)) = False := nlit 65 (by decide) e2
    have f3 : (nI (c p) = (83 : Int32)) = False := nlit 83 (by decide) e3
    have f4 : (nI (c p) = (84 : Int32)) = True := lit 84 (by decide) e4
    simp only [f1, f2, f3, f4, not_true_eq_false, not_false_eq_true, true_implies, false_implies, and_true, true_and]
    have ep : partF c N n p D.1 D.2.1 = if D.2.1 < 2 then (4, p + 1, 0, 0) else (0, p, 0, 0) := by unfold partF; rw [if_neg e1, if_neg e2, if_neg e3, if_pos e4]
    rw [et]
    refine pk_le 2 D.2.1 (fun z => ?_) (fun z => ?_)
    · rw [← et]; exact no (ep.trans (if_neg (by omega)))
    · rw [← et]
      have ep := ep.trans (if_pos z)
      rw [ep] at h0 h1
      rintro x rfl
      rw [nI_1]
      exact mstr_spec hT hO hR z hp (Or.inl ⟨rfl, rfl⟩) (fun z => ⟨Or.inl rfl, h0 z _ _ _ _ _⟩) (fun _ _ z hR2 => ⟨Or.inr rfl, h1 _ _ _ _ _ z hR2⟩)
  · have f1 : (nI (c p) = (73 : Int32)) = False := nlit 73 (by decide) e1
    have f2 : (nI (c p) = (65 : Int32)) = False := nlit 65 (by decide) e2
    have f3 : (nI (c p) = (83 : Int32)) = False := nlit 83 (by decide) e3
    have f4 : (nI (c p) = (84 : Int32)) = False := nlit 84 (by decide) e4
    simp only [f1, f2, f3, f4, not_true_eq_false, not_false_eq_true, true_implies, false_implies, and_true, true_and]
    exact no (by unfold partF; rw [if_neg e1, if_neg e2, if_neg e3, if_neg e4])
theorem mread_spec (hT : TxtOk c N fb) {rf : Int32} {ra rst rw_ : Nat → Int32} {P : Int32 → Int32 → Int32 → Int32 → Int32 → (Nat → Int32) → (Nat → Int32) → (Nat → Int32) → Prop}
    (h0 : (N = 0 ∨ c 0 ≠ 78) → ∀ x1 x2 x3 x4 f1 f2 f3, P 0 x1 x2 x3 x4 f1 f2 f3) (h1 : 0 < N → c 0 = 78 → (∀ n, ¬ HeadOk c N n) → ∀ x1 x2 x3 x4 f1 f2 f3, P 1 x1 x2 x3 x4 f1 f2 f3)
    (h2 : ∀ n q, HeadOk c N n → (runF c N n 40 2 D0).1 = some q → ∀ x1 x2 x3 x4 f1 f2 f3, P (nI q) x1 x2 x3 x4 f1 f2 f3)
    (h3 : ∀ n, HeadOk c N n → (runF c N n 40 2 D0).1 = none → ∀ x1 rr rs ra rst rw_, RefD n (runF c N n 40 2 D0).2 rr rs ra rst rw_ → P (-9) x1 (nI n) rr rs ra rst rw_) : wp_X11_readHouse (nI N) rf ra fb rst rw_ P := by
  have hN := hT.1
  unfold wp_X11_readHouse
  refine kc2 6 (fun j x g => x = nI j ∧ ∀ k, k < j → g k = 8) ⟨rfl, fun k h => absurd h (Nat.not_lt_zero k)⟩ ?_
  rintro j x g K hj ⟨rfl, hg⟩ hK
  refine pk_le 6 j (fun q6 => pk_eq N 0 (fun e => h0 (Or.inl e) _ _ _ _ _ _ _) (fun e => ⟨vp_in_nI (n := 0) (by decide) (by decide), ?_⟩)) (fun q6 => ⟨vp_in_nI q6 (by decide), fun f6 e6 x7 e7 => hK q6 ⟨by rw [e7, nI_1], fun k hk => ?_⟩⟩)
  rotate_left
  · rw [nI_clamp (by omega)] at e6
    rw [e6]
    by_cases q : k = j
    · subst q; rw [pk_us]
    · rw [pk_un q]; exact hg k (by omega)
  have ej : j = 6 := by omega
  subst ej
  clear hK
  obtain ⟨c0, ec0⟩ := hT.2 0 (by omega)
  rw [show (0 : Int32).toNatClampNeg = 0 from by decide, ec0]
  refine pk_eq (c 0) 78 (fun e0 => ?_) (fun e0 => h0 (Or.inr e0) _ _ _ _ _ _ _)
  show wp_X11_figure (nI 2) (nI 6) (nI N) (nI 1) fb _
  refine fig_spec hT (by decide) (by decide) (by omega) (fun e => ⟨fun z => absurd rfl z, fun _ => h1 (by omega) e0 (fun n hH => ?_) _ _ _ _ _ _ _⟩) (fun n e => ?_)
  · obtain ⟨a1, a2, a3, a4, a5⟩ := hH
    exact figN_none e ⟨a1, by omega, by omega⟩
  · obtain ⟨b1, b2, b3, b4⟩ := figN_some e
    have hH : HeadOk c N n := ⟨b1, e0, b4, b2, b3⟩
    refine ⟨fun _ => ?_, fun z => absurd z (nI_n9 n (by omega))⟩
    have hR0 : RefD n D0 0 0 g rst rw_ := by
      refine ⟨rfl, rfl, fun k hk => ?_, fun k hk => absurd hk (Nat.not_lt_zero k), fun k hk => absurd hk (Nat.not_lt_zero k)⟩
      rw [hg k hk]
      rcases (show k = 0 ∨ k = 1 ∨ k = 2 ∨ k = 3 ∨ k = 4 ∨ k = 5 by omega) with rfl | rfl | rfl | rfl | rfl | rfl <;> rfl
    refine kf6 40 (fun k v10 v11 v12 f13 f14 f15 => ∃ p D, v10 = nI p ∧ p ≤ N ∧ N ≤ p + k ∧ OkD n D ∧ RefD n D v11 v12 f13 f14 f15 ∧ runF c N n k p D = runF c N n 40 2 D0) ⟨2, D0, rfl, by omega, by omega, ok0 b2 b3, hR0, rfl⟩ ?_
    rintro k v10 v11 v12 f13 f14 f15 K2 ⟨p, D, rfl, hpN, hpk, hO, hR, hrun⟩ hK2
    refine pk_le N p (fun q3 => ?_) (fun q3 => ?_)
    · have e : runF c N n 40 2 D0 = (none, D) := hrun.symm.trans (runF_end q3)
      have hh := h3 n hH
      rw [e] at hh
      exact hh rfl _ _ _ _ _ _ hR
    · obtain ⟨o1, o2⟩ := part_ok (c := c) (N := N) hO q3
      obtain ⟨k, rfl⟩ : ∃ i, k = i + 1 := ⟨k - 1, by omega⟩
      rw [runF_step q3] at hrun
      refine mpart_spec hT hO hR q3 (fun z rr2 rs2 ra2 rst2 rw2 => b_no' ?_) (fun rr2 rs2 ra2 rst2 rw2 z hR2 => b_yes' (hK2 k _ _ _ _ _ _ (Nat.lt_succ_self k) ⟨_, _, rfl, (o2 z).2.2, ?_, (o2 z).1, hR2, ?_⟩))
      · rw [if_pos z] at hrun
        exact h2 n _ hH (by rw [← hrun]) _ _ _ _ _ _ _
      · have := (o2 z).2.1; omega
      · rw [if_neg z] at hrun; exact hrun
end READ
theorem RT.txt {fb : Nat → Int32} {sz : Int32} {ft : Nat → Int32} {tz : Int32} (h : RT fb sz ft tz) : ∃ (c : Nat → Nat) (N : Nat), sz = nI N ∧ tz = nI N ∧ TxtOk c N fb ∧ TxtOk c N ft := by
  obtain ⟨N, hN, e1, e2, hi⟩ := h
  refine ⟨fun i => (ft i).toNatClampNeg, N, e1, e2, ⟨hN, fun i h => ?_⟩, hN, fun i h => ?_⟩
  · obtain ⟨a, cc, b1, b2⟩ := hi i h
    have e : (ft i).toNatClampNeg = cc := by rw [b2]; exact nI_clamp (by omega)
    show (ft i).toNatClampNeg < 256 ∧ fb i = nI (ft i).toNatClampNeg
    rw [e, a, b2]
    exact ⟨b1, rfl⟩
  · obtain ⟨a, cc, b1, b2⟩ := hi i h
    have e : (ft i).toNatClampNeg = cc := by rw [b2]; exact nI_clamp (by omega)
    show (ft i).toNatClampNeg < 256 ∧ ft i = nI (ft i).toNatClampNeg
    rw [e]
    exact ⟨b1, b2⟩
theorem head_one {c : Nat → Nat} {N n m : Nat} (h : HeadOk c N n) (h' : HeadOk c N m) : n = m := by
  have := h.2.2.1
  have := h'.2.2.1
  omega
theorem s_fault : S_fault := by
  intro tz tb d1 d2 d3 d4 d5 f1 f2 f3 f4 mz mrf mra mt mrs mrw hRT
  obtain ⟨c, N, rfl, rfl, hT, hT2⟩ := hRT.txt
  unfold wp_X10_fault
  have R : ∀ v : Int32, ((N = 0 ∨ c 0 ≠ 78) → v = 0) → (0 < N → c 0 = 78 → (∀ n, ¬ HeadOk c N n) → v = 1) → (∀ n q, HeadOk c N n → (runF c N n 40 2 D0).1 = some q → v = nI q) → (∀ n, HeadOk c N n → (runF c N n 40 2 D0).1 = none → v = -9) → wp_X11_fault (nI N) mrf mra mt mrs mrw (fun r2 z0 z1 z2 z3 z4 z5 z6 z7 => v = r2) := by
    intro v a b d e
    unfold wp_X11_fault
    exact mread_spec hT2 (fun h _ _ _ _ _ _ _ => a h) (fun h h' h'' _ _ _ _ _ _ _ => b h h' h'') (fun n q h h' _ _ _ _ _ _ _ => d n q h h') (fun n h h' _ _ _ _ _ _ _ => e n h h')
  refine cread_spec hT (fun h _ _ _ _ _ _ _ _ _ _ => R 0 (fun _ => rfl) (fun h1 h2 => ?_) (fun n q hH => ?_) (fun n hH => ?_)) (fun h h' h'' _ _ _ _ _ _ _ _ _ _ => R 1 (fun z => ?_) (fun _ _ _ => rfl) (fun n q hH => absurd hH (h'' n)) (fun n hH => absurd hH (h'' n)))
    (fun n q hH hq _ _ _ _ _ _ _ _ _ _ => R (nI q) (fun z => ?_) (fun _ _ z => absurd hH (z n)) (fun m q' hH' hq' => ?_) (fun m hH' hq' => ?_)) (fun n hH hq _ _ _ _ _ _ _ _ _ => R (-9) (fun z => ?_) (fun _ _ z => absurd hH (z n)) (fun m q' hH' hq' => ?_) (fun _ _ _ => rfl))
  · rcases h with h | h
    · omega
    · exact absurd h2 h
  · have := hH.1; rcases h with h | h
    · omega
    · exact absurd hH.2.1 h
  · have := hH.1; rcases h with h | h
    · omega
    · exact absurd hH.2.1 h
  · rcases z with z | z
    · omega
    · exact absurd h' z
  · have := hH.1; rcases z with z | z
    · omega
    · exact absurd hH.2.1 z
  · have := head_one hH hH'
    subst this
    rw [hq] at hq'
    rw [Option.some.inj hq']
  · have := head_one hH hH'
    subst this
    rw [hq] at hq'; exact nomatch hq'
  · have := hH.1; rcases z with z | z
    · omega
    · exact absurd hH.2.1 z
  · have := head_one hH hH'
    subst this
    rw [hq] at hq'; exact nomatch hq'
