/-! PURE ROWS: call -/
def mostN (w : Nat → Nat) (s : List Nat) (f : Nat) : Nat := if pop6 (inM s f) < pop6 (outM w s f) then pop6 (inM s f) else pop6 (outM w s f)
theorem mostN_le (w : Nat → Nat) (s : List Nat) (f : Nat) : mostN w s f ≤ 6 := by
  have := pop_le (inM s f)
  have := pop_le (outM w s f)
  unfold mostN
  split <;> omega
def offN (H f : Nat) : Nat := if H < f then f - H else H - f
def rankN (H : Nat) (m : Nat → Nat) (rule f : Nat) : Nat := if rule = 0 then offN H f else if rule = 1 then offN H f + 6 * (6 - m f) else if f < H then 6 + (H - f) else f - H
def rankI (H : Nat) (m : Nat → Nat) (rule f : Nat) : Int32 := if rule = 0 then nI (offN H f) else if rule = 1 then nI (offN H f) - nI (6 * m f) else if f < H then nI (6 + offN H f) else nI (offN H f)
theorem offN_lt {H f : Nat} (hH : H < 6) (hf : f < 6) : offN H f < 6 := by unfold offN; split <;> omega
theorem rank_le {H : Nat} {m : Nat → Nat} {rule f g : Nat} (hH : H < 6) (hf : f < 6) (hg : g < 6) (mf : m f ≤ 6) (mg : m g ≤ 6) : rankI H m rule f ≤ rankI H m rule g ↔ rankN H m rule f ≤ rankN H m rule g := by
  have h1 := offN_lt hH hf
  have h2 := offN_lt hH hg
  unfold rankI rankN
  by_cases c0 : rule = 0
  · rw [if_pos c0, if_pos c0, if_pos c0, if_pos c0]
    exact nI_leI (by omega) (by omega)
  · rw [if_neg c0, if_neg c0, if_neg c0, if_neg c0]
    by_cases c1 : rule = 1
    · rw [if_pos c1, if_pos c1, if_pos c1, if_pos c1, Int32.le_iff_toInt_le, pk_sub_toInt (by omega) (by omega), pk_sub_toInt (by omega) (by omega)]
      omega
    · rw [if_neg c1, if_neg c1, if_neg c1, if_neg c1]
      have o1 : f < H → offN H f = H - f := fun c => by unfold offN; rw [if_neg (by omega)]
      have o2 : g < H → offN H g = H - g := fun c => by unfold offN; rw [if_neg (by omega)]
      have o3 : ¬ f < H → offN H f = f - H := fun c => by unfold offN; split <;> omega
      have o4 : ¬ g < H → offN H g = g - H := fun c => by unfold offN; split <;> omega
      by_cases a : f < H <;> by_cases b : g < H <;> simp only [a, b, if_true, if_false] <;> rw [nI_leI (by omega) (by omega)] <;> simp only [a, b, o1, o2, o3, o4, not_true, not_false_iff, forall_const, true_implies] <;> omega
theorem rank2 (H : Nat) (m : Nat → Nat) (f : Nat) : rankN H m 2 f = if f < H then 6 + (H - f) else f - H := by unfold rankN; rw [if_neg (by decide), if_neg (by decide)]
def BestP (rk m : Nat → Nat) (j : Nat) : Option Nat → Prop
  | none => ∀ f, f < j → m f = 0
  | some g => g < j ∧ 0 < m g ∧ ∀ f, f < j → 0 < m f → rk g < rk f ∨ (rk g = rk f ∧ g ≤ f)
section BEST
variable {rk m : Nat → Nat} {j g : Nat} {a : Option Nat}
theorem best_skip (h : BestP rk m j a) (h0 : m j = 0) : BestP rk m (j + 1) a := by
  cases a with
  | none =>
    intro f hf
    rcases Nat.lt_or_eq_of_le (Nat.le_of_lt_succ hf) with q | q
    · exact h f q
    · rw [q]; exact h0
  | some g =>
    obtain ⟨h1, h2, h3⟩ := h
    refine ⟨by omega, h2, fun f hf hm => ?_⟩
    rcases Nat.lt_or_eq_of_le (Nat.le_of_lt_succ hf) with q | q
    · exact h3 f q hm
    · rw [q] at hm; omega
theorem best_new (h : BestP rk m j none) (h0 : 0 < m j) : BestP rk m (j + 1) (some j) := by
  refine ⟨by omega, h0, fun f hf hm => ?_⟩
  rcases Nat.lt_or_eq_of_le (Nat.le_of_lt_succ hf) with q | q
  · have := h f q; omega
  · rw [q]; exact Or.inr ⟨rfl, Nat.le_refl _⟩
theorem best_keep (h : BestP rk m j (some g)) (h0 : rk g ≤ rk j) : BestP rk m (j + 1) (some g) := by
  obtain ⟨h1, h2, h3⟩ := h
  refine ⟨by omega, h2, fun f hf hm => ?_⟩
  rcases Nat.lt_or_eq_of_le (Nat.le_of_lt_succ hf) with q | q
  · exact h3 f q hm
  · rw [q]
    rcases Nat.lt_or_eq_of_le h0 with z | z
    · exact Or.inl z
    · exact Or.inr ⟨z, by omega⟩
theorem best_take (h : BestP rk m j (some g)) (h0 : 0 < m j) (h1 : rk j < rk g) : BestP rk m (j + 1) (some j) := by
  obtain ⟨h2, h3, h4⟩ := h
  refine ⟨by omega, h0, fun f hf hm => ?_⟩
  rcases Nat.lt_or_eq_of_le (Nat.le_of_lt_succ hf) with q | q
  · rcases h4 f q hm with z | ⟨z, -⟩ <;> exact Or.inl (by omega)
  · rw [q]; exact Or.inr ⟨rfl, Nat.le_refl _⟩
theorem best_one {b : Option Nat} (h : BestP rk m j a) (h' : BestP rk m j b) : a = b := by
  cases a with
  | none =>
    cases b with
    | none => rfl
    | some g =>
      have := h g h'.1
      have := h'.2.1
      omega
  | some f =>
    cases b with
    | none =>
      have := h' f h.1
      have := h.2.1
      omega
    | some g =>
      rcases h.2.2 g h'.1 h'.2.1 with q | ⟨q, q2⟩ <;> rcases h'.2.2 f h.1 h.2.1 with p | ⟨p, p2⟩
      · omega
      · omega
      · omega
      · have : f = g := by omega
        rw [this]
end BEST
def resI : Option Nat → Int32
  | none => -9
  | some g => nI g
theorem nI_n9 : ∀ g, g < 128 → ¬ nI g = (-9 : Int32) := by decide +kernel
theorem min_I {a b : Nat} (ha : a < 2 ^ 31) (hb : b < 2 ^ 31) : (if nI a < nI b then nI a else nI b) = nI (if a < b then a else b) := by
  by_cases c : a < b
  · rw [if_pos c, if_pos (nI_lt c hb)]
  · rw [if_neg c, if_neg (nI_nlt (by omega) ha)]
section CALL
variable {n r t h H : Nat} {w b HF HO HI : Nat → Nat} {s : List Nat} {lwa lsa lrow mat mw : Nat → Int32} {f : Nat} {P : Int32 → Prop}
theorem cmost_spec (hg : StG n r b s) (hr : r ≤ 4) (hwa : ∀ f, f < 6 → lwa f = nI (bits4 fun k => decide (k < r) && w k == f)) (hsa : ∀ f, f < 6 → lsa f = nI (bits4 fun k => decide (k < r) && b k == f)) (hf : f < n) (hP : P (nI (mostN w s f))) : wp_X5_mostAt (nI f) (nI (encS s)) lwa lsa P := by
  have hn6 := hg.1
  have := pop_le (inM s f)
  have := pop_le (outM w s f)
  unfold wp_X5_mostAt wp_X5_mayLeave wp_X5_mayEnter
  refine mayLeave_enc (t := 0) (b := b) hg hr (by omega) (hwa f (by omega)) (bc_spec (outM_lt w s f) (mayEnter_enc (t := 0) (w := w) hg hr hf (hsa f (by omega)) (bc_spec (inM_lt s f) ?_)))
  rw [min_I (by omega) (by omega)]
  exact hP
theorem mmost_spec (hg : StG n r b s) (hr : r ≤ 4) (hat : ∀ k, k < 6 → mat k = nI (pz s k)) (hw : ∀ k, k < r → mw k = nI (w k) ∧ w k < n) (hf : f < n) (hP : P (nI (mostN w s f))) : wp_X11_mostAt (nI f) mat mw P := by
  have hn6 := hg.1
  have := pop_le (inM s f)
  have := pop_le (outM w s f)
  unfold wp_X11_mostAt
  refine mayOf_spec hg hr (by omega) hat hw ?_
  rw [if_neg (by decide)]
  refine many_spec (outM_lt w s f) (mayOf_spec hg hr (by omega) hat hw ?_)
  rw [if_pos rfl]
  refine many_spec (inM_lt s f) ?_
  unfold mostN at hP
  refine pk_le (pop6 (inM s f)) (pop6 (outM w s f)) (fun c => ?_) (fun c => ?_)
  · by_cases c2 : pop6 (inM s f) < pop6 (outM w s f)
    · rw [if_pos c2] at hP; exact hP
    · rw [if_neg c2] at hP
      have : pop6 (inM s f) = pop6 (outM w s f) := by omega
      rw [this]; exact hP
  · rw [if_neg (by omega)] at hP; exact hP
theorem crank_spec (hg : StG n r b s) (hr : r ≤ 4) (hwa : ∀ f, f < 6 → lwa f = nI (bits4 fun k => decide (k < r) && w k == f)) (hsa : ∀ f, f < 6 → lsa f = nI (bits4 fun k => decide (k < r) && b k == f)) (h24 : h ≤ 24) (hrow : ∀ i, i < h → lrow i = nI (HF i * 4096 + HO i * 64 + HI i)) (hlt : ∀ i, i < h → HF i < n ∧ HO i < 64 ∧ HI i < 64) (hf : f < n) {rule : Nat} (h2 : rule < 3) (hP : P (rankI (hoN HF h) (mostN w s) rule f)) : wp_X10_rankOf (nI f) (nI rule) (nI (encS s)) (nI h) lrow lwa lsa P := by
  have hn6 := hg.1
  have hH := (flN_le hn6 (fun i hi => (hlt i hi).1) h (Nat.le_refl h)).2
  have hm := mostN_le w s f
  have ho := offN_lt hH (show f < 6 by omega)
  unfold wp_X10_rankOf
  refine hoist_spec hn6 h24 hrow hlt (fun x2 e2 => ?_)
  rw [absD _ (by omega) _ hH] at e2
  have e2 : x2 = nI (offN (hoN HF h) f) := e2
  subst e2
  unfold rankI at hP
  rcases (show rule = 0 ∨ rule = 1 ∨ rule = 2 by omega) with rfl | rfl | rfl
  · rw [if_pos rfl] at hP
    exact ⟨fun _ => hP, fun c => absurd c (by decide), fun c => absurd rfl c⟩
  · rw [if_neg (by decide), if_pos rfl] at hP
    refine ⟨fun c => absurd c (by decide), fun _ => cmost_spec hg hr hwa hsa hf ?_, fun _ c => absurd rfl c⟩
    rw [show (6 : Int32) * nI (mostN w s f) = nI (6 * mostN w s f) from pk_mul 6 _]
    exact hP
  · rw [if_neg (by decide), if_neg (by decide)] at hP
    refine ⟨fun c => absurd c (by decide), fun c => absurd c (by decide), fun _ _ => pk_lt f (hoN HF h) (fun c => ?_) (fun c => ?_)⟩
    · rw [if_pos c] at hP
      rw [show (6 : Int32) + nI (offN (hoN HF h) f) = nI (6 + offN (hoN HF h) f) from nI_add 6 _]
      exact hP
    · rw [if_neg (by omega)] at hP
      exact hP
theorem cfloorBy_spec (hg : StG n r b s) (hr : r ≤ 4) (hwa : ∀ f, f < 6 → lwa f = nI (bits4 fun k => decide (k < r) && w k == f)) (hsa : ∀ f, f < 6 → lsa f = nI (bits4 fun k => decide (k < r) && b k == f)) (h24 : h ≤ 24) (hrow : ∀ i, i < h → lrow i = nI (HF i * 4096 + HO i * 64 + HI i)) (hlt : ∀ i, i < h → HF i < n ∧ HO i < 64 ∧ HI i < 64) {rule : Nat} (h2 : rule < 3) (hP : ∀ res, BestP (rankN (hoN HF h) (mostN w s) rule) (mostN w s) n res → P (resI res)) : wp_X10_floorBy (nI rule) (nI (encS s)) (nI h) (nI n) lrow lwa lsa P := by
  have hn6 := hg.1
  have hH := (flN_le hn6 (fun i hi => (hlt i hi).1) h (Nat.le_refl h)).2
  unfold wp_X10_floorBy
  refine kc3 n (fun j x y z => z = nI j ∧ ∃ res, BestP (rankN (hoN HF h) (mostN w s) rule) (mostN w s) j res ∧ x = resI res ∧ ∀ g, res = some g → y = rankI (hoN HF h) (mostN w s) rule g) ⟨rfl, none, fun f hf => absurd hf (Nat.not_lt_zero f), rfl, fun g hg => nomatch hg⟩ ?_
  rintro j x y z K hj ⟨rfl, res, hB, rfl, hy⟩ hK
  refine pk_le n j (fun c => ?_) (fun c => crank_spec hg hr hwa hsa h24 hrow hlt c h2 (cmost_spec hg hr hwa hsa c (pk_le (mostN w s j) 0 (fun c1 x8 e8 => ?_) (fun c1 => ?_) rfl rfl (by have := mostN_le w s j; omega) (by omega))))
  · have e : j = n := by omega
    subst e
    exact hP res hB
  · exact hK c ⟨by rw [e8, nI_1], res, best_skip hB (by omega), rfl, hy⟩
  · cases res with
    | none => exact ⟨fun _ x10 e10 => hK c ⟨by rw [e10, nI_1], some j, best_new hB c1, rfl, fun g hg => by cases hg; rfl⟩, fun c2 => absurd rfl c2⟩
    | some g =>
      have hgn := hB.1
      have e := hy g rfl
      subst e
      refine ⟨fun c2 => absurd c2 (nI_n9 g (by omega)), fun _ => ⟨fun c3 x12 e12 => ?_, fun c3 x13 e13 => ?_⟩⟩
      · rw [rank_le hH (by omega) (by omega) (mostN_le w s g) (mostN_le w s j)] at c3
        exact hK c ⟨by rw [e12, nI_1], some g, best_keep hB c3, rfl, hy⟩
      · rw [rank_le hH (by omega) (by omega) (mostN_le w s g) (mostN_le w s j)] at c3
        exact hK c ⟨by rw [e13, nI_1], some j, best_take hB c1 (by omega), rfl, fun g hg => by cases hg; rfl⟩
theorem off_spec (hH : H < 6) (hf : f < 6) (hP : P (nI (offN H f))) : wp_X11_off (nI f) (nI H) P := by
  unfold wp_X11_off
  unfold offN at hP
  refine pk_le f H (fun c => ?_) (fun c => ?_)
  · rw [if_neg (by omega)] at hP
    rw [pk_sub c]; exact hP
  · rw [if_pos c] at hP
    rw [pk_sub (by omega)]; exact hP
/-- the reference's two rows of rule 2 -/
theorem mturn_down (hg : StG n r b s) (hr : r ≤ 4) (hat : ∀ k, k < 6 → mat k = nI (pz s k)) (hw : ∀ k, k < r → mw k = nI (w k) ∧ w k < n) {p0 x : Int32} {res : Option Nat} (hn : 1 ≤ n) (hx : x = resI res) (hres : ∀ g, res = some g → g < 6) (h1 : p0 ≠ 2 → P x) (h2 : p0 = 2 → ∀ g, res = some g → P x) (h3 : p0 = 2 → res = none → (∀ f, f < n → mostN w s f = 0) → P (-9)) (h4 : p0 = 2 → res = none → ∀ g, g < n → 0 < mostN w s g → (∀ f, g < f → f < n → mostN w s f = 0) → P (nI g)) :
    ∀ x_7 : Int32, x_7 = (nI n - (1 : Int32)) → (kl2 (fun (x_8 : Int32) (x_9 : Int32) K156 => ((x_9 < 0 → P x_8) ∧ (¬ x_9 < 0 → ((¬ p0 = (2 : Int32) → P x_8) ∧ (p0 = (2 : Int32) → ((¬ x_8 = (-9 : Int32) → P x_8) ∧ (x_8 = (-9 : Int32) → (wp_X11_mostAt x_9 mat mw (fun r_13 => ((r_13 ≤ 0 → (∀ x_15 : Int32, x_15 = x_9 + (-1 : Int32) → K156 (-9 : Int32) x_15)) ∧ (¬ r_13 ≤ 0 → (∀ x_16 : Int32, x_16 = x_9 + (-1 : Int32) → K156 x_9 x_16)))))))))))) x x_7) := by
  rintro x7 rfl
  have hn6 := hg.1
  rw [dn_of n hn]
  refine kf2 n (fun i x y => ∃ res' : Option Nat, i ≤ n ∧ y = dn i ∧ x = resI res' ∧ (∀ g, res' = some g → g < 6) ∧ (p0 ≠ 2 → P x) ∧ (p0 = 2 → ∀ g, res' = some g → P x) ∧ (p0 = 2 → res' = none → (res = none ∧ ∀ f, i ≤ f → f < n → mostN w s f = 0))) ⟨res, Nat.le_refl n, rfl, hx, hres, h1, h2, fun _ e => ⟨e, fun f a c => by omega⟩⟩ ?_
  rintro i x y K ⟨res', hi, rfl, rfl, hr6, a1, a2, a3⟩ hK
  have fin : p0 = 2 → (∀ f, i ≤ f → f < n → mostN w s f = 0) → i = 0 → res' = none → P (resI res') := by
    intro e z i0 rn
    subst rn
    exact h3 e (a3 e rfl).1 (fun f hf => z f (by omega) hf)
  have all : i = 0 → P (resI res') := by
    intro i0
    by_cases e : p0 = 2
    · cases res' with
      | none => exact fin e (a3 e rfl).2 i0 rfl
      | some g => exact a2 e g rfl
    · exact a1 e
  cases i with
  | zero => exact ⟨fun _ => all rfl, fun c => absurd dn_0 c⟩
  | succ i =>
    refine ⟨fun c => absurd c (dn_s (by omega)), fun _ => ⟨a1, fun e => ⟨fun c => ?_, fun c => ?_⟩⟩⟩
    · cases res' with
      | none => exact absurd rfl c
      | some g => exact a2 e g rfl
    · cases res' with
      | some g => exact absurd c (nI_n9 g (by have := hr6 g rfl; omega))
      | none =>
        obtain ⟨b1, b2⟩ := a3 e rfl
        show wp_X11_mostAt (nI i) _ _ _
        have hm := mostN_le w s i
        refine mmost_spec hg hr hat hw (by omega) (pk_le (mostN w s i) 0 (fun c1 x15 e15 => ?_) (fun c1 x16 e16 => ?_) rfl rfl (by omega) (by omega))
        · refine hK i _ _ (Nat.lt_succ_self i) ⟨none, by omega, by rw [e15]; exact dn_p i, rfl, fun g hg => (nomatch hg), fun z => absurd e z, fun _ g hg => (nomatch hg), fun _ _ => ⟨b1, fun f h1 h2 => ?_⟩⟩
          rcases Nat.lt_or_eq_of_le h1 with q | q
          · exact b2 f q h2
          · subst q; omega
        · refine hK i _ _ (Nat.lt_succ_self i) ⟨some i, by omega, by rw [e16]; exact dn_p i, rfl, fun g hg => by cases hg; omega, fun z => absurd e z, fun _ g hg => h4 e b1 i (by omega) c1 (fun f h1 h2 => b2 f (by omega) h2), fun _ hg => (nomatch hg)⟩
theorem mfloorBy_spec (hg : StG n r b s) (hr : r ≤ 4) (hat : ∀ k, k < 6 → mat k = nI (pz s k)) (hw : ∀ k, k < r → mw k = nI (w k) ∧ w k < n) (hn : 1 ≤ n) (hH : H < n) {rule : Nat} (h2 : rule < 3) (hP : ∀ res, BestP (rankN H (mostN w s) rule) (mostN w s) n res → P (resI res)) : wp_X11_floorBy (nI rule) (nI n) (nI H) mat mw P := by
  have hn6 := hg.1
  unfold wp_X11_floorBy
  have hr2 : nI rule = 2 ↔ rule = 2 := nI_eq (b := 2) (by omega) (by decide)
  by_cases cr : rule = 2
  · subst cr
    refine kf2 0 (fun _ x y => x = -9 ∧ y = 0) ⟨rfl, rfl⟩ ?_
    rintro _ x y K ⟨rfl, rfl⟩ -
    refine pk_le n 0 (fun c => by omega) (fun _ => ⟨fun _ => ?_, fun c => absurd (by decide) c⟩)
    refine kc2 (n - H) (fun i x y => ∃ res : Option Nat, y = nI (H + i) ∧ x = resI res ∧ (res = none → ∀ f, H ≤ f → f < H + i → mostN w s f = 0) ∧ ∀ g, res = some g → H ≤ g ∧ g < n ∧ 0 < mostN w s g ∧ ∀ f, H ≤ f → f < g → mostN w s f = 0) ⟨none, rfl, rfl, fun _ f a c => by omega, fun g hg => (nomatch hg)⟩ ?_
    rintro i x y K hi ⟨res, rfl, rfl, hnone, hsome⟩ hK
    have h6 : ∀ g, res = some g → g < 6 := fun g e => by have := (hsome g e).2.1; omega
    have yes : ∀ g, res = some g → P (resI res) := by
      intro g e
      subst e
      obtain ⟨a1, a2, a3, a4⟩ := hsome g rfl
      refine hP (some g) ⟨a2, a3, fun f hf hm => ?_⟩
      rw [rank2, rank2, if_neg (by omega : ¬ g < H)]
      by_cases c : f < H
      · rw [if_pos c]; exact Or.inl (by omega)
      · rw [if_neg c]
        by_cases c2 : f < g
        · have := a4 f (by omega) c2; omega
        · by_cases c3 : f = g
          · exact Or.inr ⟨by rw [c3], by omega⟩
          · exact Or.inl (by omega)
    have down : (res = none → ∀ f, H ≤ f → f < n → mostN w s f = 0) → ∀ x_7 : Int32, x_7 = (nI n - (1 : Int32)) → _ := fun hz => mturn_down (P := P) hg hr hat hw (p0 := nI 2) hn (x := resI res) rfl h6 (fun z => absurd rfl z) (fun _ g e => yes g e) (fun _ e hz2 => hP none hz2) (fun _ e g hgn hgp hgz => by
      refine hP (some g) ⟨hgn, hgp, fun f hf hm => ?_⟩
      have gH : g < H := by
        apply Nat.lt_of_not_le
        intro z
        have := hz e g z hgn
        omega
      have fH : f < H := by
        apply Nat.lt_of_not_le
        intro z
        have := hz e f z hf
        omega
      have fg : f ≤ g := by
        apply Nat.le_of_not_lt
        intro z
        have := hgz f z hf
        omega
      rw [rank2, rank2, if_pos gH, if_pos fH]
      by_cases c3 : f = g
      · exact Or.inr ⟨by rw [c3], by omega⟩
      · exact Or.inl (by omega))
    refine pk_le n (H + i) (fun c => down (fun e f a1 a2 => hnone e f a1 (by omega))) (fun c => ⟨fun z => absurd rfl z, fun _ => ⟨fun c2 => ?_, fun c2 => ?_⟩⟩)
    · refine down (fun e => ?_)
      subst e
      exact absurd rfl c2
    · cases res with
      | some g => exact absurd c2 (nI_n9 g (by have := h6 g rfl; omega))
      | none =>
        have hm := mostN_le w s (H + i)
        refine mmost_spec hg hr hat hw (by omega) (pk_le (mostN w s (H + i)) 0 (fun c1 x e => ?_) (fun c1 x e => ?_) rfl rfl (by omega) (by omega))
        · refine hK (by omega) ⟨none, by rw [e, nI_1, Nat.add_assoc], rfl, fun _ f a1 a2 => ?_, fun g hg => (nomatch hg)⟩
          by_cases q : f = H + i
          · subst q; omega
          · exact hnone rfl f a1 (by omega)
        · refine hK (by omega) ⟨some (H + i), by rw [e, nI_1, Nat.add_assoc], rfl, fun hg => (nomatch hg), fun g hg => ?_⟩
          cases hg
          exact ⟨by omega, c, c1, fun f a1 a2 => hnone rfl f a1 a2⟩
  · refine kc2 n (fun j x y => y = nI j ∧ ∃ res, BestP (rankN H (mostN w s) rule) (mostN w s) j res ∧ x = resI res) ⟨rfl, none, fun f hf => absurd hf (Nat.not_lt_zero f), rfl⟩ ?_
    rintro j x y K hj ⟨rfl, res, hB, rfl⟩ hK
    refine pk_le n j (fun c => ?_) (fun c => pk_le 2 rule (fun c2 => by omega) (fun c2 => ?_))
    · have e : j = n := by omega
      subst e
      have hp2 : ¬ nI rule = 2 := fun z => cr (hr2.mp z)
      refine kf2 0 (fun _ x y => x = resI res) rfl ?_
      rintro _ x y K rfl -
      have dw := mturn_down (P := P) hg hr hat hw (p0 := nI rule) hn (x := resI res) rfl (fun g e => by subst e; have := hB.1; omega) (fun _ => hP res hB) (fun z => absurd z hp2) (fun z => absurd z hp2) (fun z => absurd z hp2)
      exact ⟨fun _ => dw, fun _ => ⟨fun _ => dw, fun z => absurd z hp2⟩⟩
    · have hm := mostN_le w s j
      have ms : ∀ {P : Int32 → Prop} {f : Nat}, f < n → P (nI (mostN w s f)) → wp_X11_mostAt (nI f) mat mw P := fun hf hP => mmost_spec hg hr hat hw hf hP
      have hj6 : j < 6 := by omega
      have oj := offN_lt (show H < 6 by omega) hj6
      have skip : mostN w s j ≤ 0 → ∀ x : Int32, x = nI j + 1 → K (resI res) x := fun c1 x e => hK c ⟨by rw [e, nI_1], res, best_skip hB (by omega), rfl⟩
      cases res with
      | none => exact ⟨fun z => absurd rfl z, fun _ => ms c (pk_le (mostN w s j) 0 skip (fun c1 x e => hK c ⟨by rw [e, nI_1], some j, best_new hB c1, rfl⟩) rfl rfl (by omega) (by omega))⟩
      | some g =>
        have hgn := hB.1
        have hmg := mostN_le w s g
        have og := offN_lt (show H < 6 by omega) (show g < 6 by omega)
        have keep : rankN H (mostN w s) rule g ≤ rankN H (mostN w s) rule j → wp_X11_mostAt (nI j) mat mw (fun r_103 => ((r_103 ≤ 0 → (∀ x_105 : Int32, x_105 = nI j + (1 : Int32) → K (resI (some g)) x_105)) ∧ (¬ r_103 ≤ 0 → (∀ x_107 : Int32, x_107 = nI j + (1 : Int32) → K (resI (some g)) x_107)))) := fun q => ms c (pk_le (mostN w s j) 0 skip (fun c1 x e => hK c ⟨by rw [e, nI_1], some g, best_keep hB q, rfl⟩) rfl rfl (by omega) (by omega))
        have take : rankN H (mostN w s) rule j < rankN H (mostN w s) rule g → wp_X11_mostAt (nI j) mat mw (fun r_103 => ((r_103 ≤ 0 → (∀ x_105 : Int32, x_105 = nI j + (1 : Int32) → K (resI (some g)) x_105)) ∧ (¬ r_103 ≤ 0 → (∀ x_107 : Int32, x_107 = nI j + (1 : Int32) → K (nI j) x_107)))) := fun q => ms c (pk_le (mostN w s j) 0 skip (fun c1 x e => hK c ⟨by rw [e, nI_1], some j, best_take hB c1 q, rfl⟩) rfl rfl (by omega) (by omega))
        refine ⟨fun _ => ⟨fun c3 => ?_, fun c3 => ?_⟩, fun z => absurd z (nI_n9 g (by omega))⟩
        · have e1 : rule = 1 := by
            have : rule ≠ 0 := fun z => c3 (by rw [z]; rfl)
            omega
          subst e1
          have rj : rankN H (mostN w s) 1 j = offN H j + 6 * (6 - mostN w s j) := by unfold rankN; rw [if_neg (by decide), if_pos rfl]
          have rg : rankN H (mostN w s) 1 g = offN H g + 6 * (6 - mostN w s g) := by unfold rankN; rw [if_neg (by decide), if_pos rfl]
          refine ms c (ms (by omega) ?_)
          rintro x87 rfl
          have et := pk_sub_toInt (a := mostN w s j) (b := mostN w s g) (by omega) (by omega)
          refine ⟨fun c4 => take ?_, fun c4 => ⟨fun c5 => keep ?_, fun c5 => off_spec (by omega) hj6 (off_spec (by omega) (by omega) (pk_le (offN H g) (offN H j) (fun c6 => keep ?_) (fun c6 => take ?_)))⟩⟩
          · rw [Int32.lt_iff_toInt_lt, et, show (0 : Int32).toInt = 0 from by decide] at c4
            rw [rj, rg]; omega
          · rw [Int32.lt_iff_toInt_lt, et, show (0 : Int32).toInt = 0 from by decide] at c4
            rw [← Int32.toInt_inj, et, show (0 : Int32).toInt = 0 from by decide] at c5
            rw [rj, rg]; omega
          · rw [← Int32.toInt_inj, et, show (0 : Int32).toInt = 0 from by decide] at c5
            rw [rj, rg]; omega
          · rw [← Int32.toInt_inj, et, show (0 : Int32).toInt = 0 from by decide] at c5
            rw [rj, rg]; omega
        · have e0 : rule = 0 := (nI_eq (b := 0) (by omega) (by decide)).mp c3
          subst e0
          exact off_spec (by omega) hj6 (off_spec (by omega) (by omega) (pk_le (offN H g) (offN H j) (fun c6 => keep c6) (fun c6 => take c6)))
end CALL
/-! the least so many of a set -/
def leastN (m q : Nat) : Nat → Nat
  | 0 => 0
  | j + 1 => if q ≤ pop6 (leastN m q j) then leastN m q j else leastN m q j ||| (m &&& 2 ^ j)
theorem leastN_ok : ∀ m, m < 64 → ∀ q, q < 7 → leastN m q 6 &&& m = leastN m q 6 ∧ (q ≤ pop6 m → pop6 (leastN m q 6) = q) := by decide +kernel
theorem leastN_lt : ∀ m, m < 64 → ∀ q, q < 7 → ∀ j, j < 7 → leastN m q j < 64 := by decide +kernel
theorem leastN_stop {m q j : Nat} (h : q ≤ pop6 (leastN m q j)) : ∀ i, leastN m q (j + i) = leastN m q j
  | 0 => rfl
  | i + 1 => by
    show (if q ≤ pop6 (leastN m q (j + i)) then leastN m q (j + i) else _) = _
    rw [leastN_stop h i, if_pos h]
theorem cleast_spec {m q : Nat} {P : Int32 → Prop} (hm : m < 64) (hq : q < 7) (hP : P (nI (leastN m q 6))) : wp_X10_leastOf (nI m) (nI q) P := by
  unfold wp_X10_leastOf
  refine kc2 6 (fun j x y => y = nI j ∧ x = nI (leastN m q j)) ⟨rfl, rfl⟩ ?_
  rintro j x y K hj ⟨rfl, rfl⟩ hK
  have := pop_le (leastN m q j)
  refine pk_le 6 j (fun c => ?_) (fun c => bc_spec (leastN_lt m hm q hq j (by omega)) (pk_le q (pop6 (leastN m q j)) (fun c2 => ?_) (fun c2 x6 e6 x7 e7 => hK c ⟨by rw [e7, nI_1], ?_⟩)))
  · have e : j = 6 := by omega
    subst e; exact hP
  · have := leastN_stop c2 (6 - j)
    rw [show j + (6 - j) = 6 by omega] at this
    rw [← this]; exact hP
  · rw [e6, sh1 j (by omega), fa_and, fa_or]
    show _ = nI (if q ≤ pop6 (leastN m q j) then _ else _)
    rw [if_neg (by omega)]
theorem mleast_spec {m q : Nat} {P : Int32 → Prop} (hm : m < 64) (hq : q < 7) (hP : P (nI (leastN m q 6))) : wp_X11_leastOf (nI m) (nI q) P := by
  unfold wp_X11_leastOf
  refine kc2 6 (fun j x y => y = nI j ∧ x = nI (leastN m q j)) ⟨rfl, rfl⟩ ?_
  rintro j x y K hj ⟨rfl, rfl⟩ hK
  have := pop_le (leastN m q j)
  refine pk_le 6 j (fun c => ?_) (fun c => many_spec (leastN_lt m hm q hq j (by omega)) (pk_le q (pop6 (leastN m q j)) (fun c2 => ?_) (fun c2 x6 e6 x7 e7 => hK c ⟨by rw [e7, nI_1], ?_⟩)))
  · have e : j = 6 := by omega
    subst e; exact hP
  · have := leastN_stop c2 (6 - j)
    rw [show j + (6 - j) = 6 by omega] at this
    rw [← this]; exact hP
  · rw [e6, sh1 j (by omega), fa_and, fa_or]
    show _ = nI (if q ≤ pop6 (leastN m q j) then _ else _)
    rw [if_neg (by omega)]
theorem mv_least {n : Nat} {w : Nat → Nat} {s : List Nat} {f : Nat} (hf : f < n) (hm : 0 < mostN w s f) : mv n w s f (leastN (outM w s f) (mostN w s f) 6, leastN (inM s f) (mostN w s f) 6) := by
  have h6 := mostN_le w s f
  obtain ⟨a1, a2⟩ := leastN_ok _ (outM_lt w s f) (mostN w s f) (by omega)
  obtain ⟨b1, b2⟩ := leastN_ok _ (inM_lt s f) (mostN w s f) (by omega)
  have q1 : mostN w s f ≤ pop6 (outM w s f) := by unfold mostN; split <;> omega
  have q2 : mostN w s f ≤ pop6 (inM s f) := by unfold mostN; split <;> omega
  have e1 := a2 q1
  have e2 := b2 q2
  refine mv_of hf (fun z => ?_) a1 b1 (e2.trans e1.symm)
  rw [z] at e1
  have : pop6 0 = 0 := by decide
  omega
theorem s_call : S_call := by
  intro p0 sea lst lsz lf lrow lwa lsa mf mho mfl mh mat mw mmade lr lt lw ls ssz sst scf shl mr mt ms hD
  have hD0 := hD
  obtain ⟨n, r, t, h, w, b, HF, HO, HI, s, hC, hS⟩ := hD
  have hC0 := hC
  obtain ⟨hH, hS', hT, hR, hL, rfl, rfl, hrow, hM, hat, rfl, rfl, rfl, hmade⟩ := hC
  have h24 := hR.1
  have hlt := hR.lt
  obtain ⟨rfl, -, -, -, -, -, hwa, hsa⟩ := hL
  obtain ⟨rfl, -, -, hmw, -⟩ := hM
  obtain ⟨hn2, hn6, hr, ht, hwb⟩ := hH
  have hg : StG n r b s := ⟨hn6, hS'⟩
  have hw : ∀ k, k < r → mw k = nI (w k) ∧ w k < n := fun k hk => ⟨hmw k hk, (hwb k hk).1⟩
  have hHo : hoN HF h < n := by
    cases h with
    | zero => show 0 < n; omega
    | succ h => exact (hlt h (Nat.lt_succ_self h)).1
  have i3 : ∀ {P : Int32 → Prop} {rule : Nat}, rule < 3 → P 1 → wp_X11_in (nI rule).toInt64 0 2 P := fun hq hP => in_spec (fun _ => hP) (fun z => absurd ((in_0n (m := 3) (by decide) _ 2 (by decide)).mpr (fun y => y.elim (fun y => nI_pos (by omega) y) (fun y => nI_ge hq (by decide) y))) z)
  unfold wp_X10_call
  rcases cases_n (m := 3) (by decide) p0 with ⟨rule, hq, rfl⟩ | hb
  · refine ⟨fun c => absurd c (nI_pos (by omega)), fun _ => ⟨fun _ => ?_, fun c => absurd (nI_le (b := 2) (by omega) (by decide)) c⟩⟩
    unfold wp_X5_isFull
    refine pk_lt h 24 (fun c => b_no ?_) (fun c => b_yes ?_)
    · refine cfloorBy_spec hg hr hwa hsa h24 hrow hlt hq (fun res hres => ?_)
      have R : ∀ {P : Int32 → Int32 → Int32 → Int32 → Int32 → (Nat → Int32) → (Nat → Int32) → Prop}, ((resI res = (-9 : Int32) → P (resI res) (0 : Int32) (nI (hoN HF h)) (nI (flN HF h)) (nI h) mat mmade) ∧ (¬ resI res = (-9 : Int32) → (wp_X11_mostAt (resI res) mat mw (fun r_6 => (wp_X11_mayOf (resI res) (1 : Int32) 6 mat mw (fun r_7 => (wp_X11_leastOf r_7 r_6 (fun r_8 => (wp_X11_mayOf (resI res) (0 : Int32) 6 mat mw (fun r_9 => (wp_X11_leastOf r_9 r_6 (fun r_10 => (wp_X11_goHalt (resI res) r_8 r_10 (nI (hoN HF h)) (nI (flN HF h)) (nI h) mmade mat (fun v_11 v_12 v_13 f_14 f_15 => P (resI res) (0 : Int32) v_11 v_12 v_13 f_15 f_14)))))))))))))) → wp_X11_call (nI rule) (nI n) (nI (hoN HF h)) (nI (flN HF h)) (nI h) mat mw mmade P := by
        intro P hP
        unfold wp_X11_call
        refine i3 hq (b_yes' ⟨fun _ => mfloorBy_spec hg hr hat hw (by omega) hHo hq (fun res' hres' => ?_), fun z => absurd ((nI_eq (b := 24) (by omega) (by decide)).mp z) (by omega)⟩)
        rw [best_one hres' hres]
        exact hP
      cases res with
      | none => exact ⟨fun _ => R ⟨fun _ => ⟨rfl, hD0⟩, fun z => absurd rfl z⟩, fun z => absurd rfl z⟩
      | some g =>
        obtain ⟨g1, g2, -⟩ := hres
        have n9 : ¬ nI g = (-9 : Int32) := nI_n9 g (by omega)
        have hm := mv_least g1 g2
        have h6 := mostN_le w s g
        refine ⟨fun z => absurd z n9, fun _ => ?_⟩
        show wp_X5_mostAt (nI g) _ _ _ _
        refine cmost_spec hg hr hwa hsa g1 ?_
        unfold wp_X5_mayLeave wp_X5_mayEnter wp_X10_makeHalt
        refine mayLeave_enc (t := t) (b := b) hg hr (by omega) (hwa g (by omega)) (cleast_spec (outM_lt w s g) (by omega) (mayEnter_enc (t := t) (w := w) hg hr g1 (hsa g (by omega)) (cleast_spec (inM_lt s g) (by omega) (add_spec hC0 hm c (fun row2 hrow2 => R ⟨fun z => absurd z n9, fun _ => ?_⟩)))))
        show wp_X11_mostAt (nI g) _ _ _
        refine mmost_spec hg hr hat hw g1 (mayOf_spec hg hr (by omega) hat hw ?_)
        rw [if_neg (by decide)]
        refine mleast_spec (outM_lt w s g) (by omega) (mayOf_spec hg hr (by omega) hat hw ?_)
        rw [if_pos rfl]
        refine mleast_spec (inM_lt s g) (by omega) (goHalt_spec hC0 hm c (fun mat2 made2 hmat2 hmade2 => ⟨rfl, ?_⟩))
        exact ⟨n, r, t, h + 1, w, b, _, _, _, _, core_step hC0 hm c hrow2 hmat2 hmade2, Or.inl rfl⟩
    · have : h = 24 := by omega
      subst this
      unfold wp_X11_call
      exact i3 hq (b_yes' ⟨fun z => absurd rfl z, fun _ => ⟨rfl, hD0⟩⟩)
  · have out : wp_X11_call p0 (nI n) (nI (hoN HF h)) (nI (flN HF h)) (nI h) mat mw mmade (fun r2 z0 z1 z2 z3 z4 z5 => (-1 : Int32) = r2 ∧ RD (nI n) lr lt (nI (encS s)) (nI h) lw ls lwa lsa lrow sea ssz sst scf shl (nI n) mr mt z1 z2 z3 z4 mw ms z5) := by
      unfold wp_X11_call
      exact in_spec (fun z => absurd hb ((in_0n (m := 3) (by decide) _ 2 (by decide)).mp z)) (fun _ => b_no' ⟨rfl, hD0⟩)
    refine ⟨fun _ => out, fun c => ⟨fun c2 => ?_, fun _ => out⟩⟩
    rcases hb with y | y
    · exact absurd y c
    · exfalso
      rw [Int32.le_iff_toInt_le, show (nI 3).toInt = 3 from by decide] at y
      rw [Int32.le_iff_toInt_le, show (2 : Int32).toInt = 2 from by decide] at c2
      omega
