/-! PURE ROWS: choices -/
theorem pk_ne {x y : Int32} {A B : Prop} (a b : Nat) (f : a = b → A) (g : a ≠ b → B) (hx : x = nI a := by rfl) (hy : y = nI b := by rfl) (ha : a < 2 ^ 31 := by omega) (hb : b < 2 ^ 31 := by omega) : (¬ x = y → B) ∧ (x = y → A) := (pk_eq a b f g hx hy ha hb).symm
theorem pk_nle {x y : Int32} {A B : Prop} (a b : Nat) (f : a ≤ b → A) (g : b < a → B) (hx : x = nI a := by rfl) (hy : y = nI b := by rfl) (ha : a < 2 ^ 31 := by omega) (hb : b < 2 ^ 31 := by omega) : (¬ x ≤ y → B) ∧ (x ≤ y → A) := (pk_le a b f g hx hy ha hb).symm
theorem b_yes {A B : Prop} (h : B) : ((1 : Int32) = 0 → A) ∧ (¬ (1 : Int32) = 0 → B) := ⟨fun c => absurd c (by decide), fun _ => h⟩
theorem b_no {A B : Prop} (h : A) : ((0 : Int32) = 0 → A) ∧ (¬ (0 : Int32) = 0 → B) := ⟨fun _ => h, fun c => absurd rfl c⟩
theorem b_yes' {A B : Prop} (h : B) : (¬ (1 : Int32) = 0 → B) ∧ ((1 : Int32) = 0 → A) := (b_yes h).symm
theorem b_no' {A B : Prop} (h : A) : (¬ (0 : Int32) = 0 → B) ∧ ((0 : Int32) = 0 → A) := (b_no h).symm
def chI (n : Nat) : Nat → Int32
  | 0 => 1
  | i + 1 => (chI n i * (nI n - nI i)) / (nI i + 1)
def chN : Nat → Nat → Nat
  | _, 0 => 1
  | 0, _ + 1 => 0
  | n + 1, k + 1 => chN n k + chN n (k + 1)
theorem chI_N : ∀ n, n < 7 → ∀ k, k < 7 → (if k ≤ n then chI n k else 0) = nI (chN n k) := by decide +kernel
theorem choose_spec {n k : Nat} {P : Int32 → Prop} (hn : n < 7) (hk : k < 7) (hP : P (nI (chN n k))) : wp_X11_choose (nI n) (nI k) P := by
  rw [← chI_N n hn k hk] at hP
  unfold wp_X11_choose
  refine kc2 k (fun j x y => y = nI j ∧ x = chI n j) ⟨rfl, rfl⟩ ?_
  rintro j x y K hj ⟨rfl, rfl⟩ hK
  refine pk_le k j (fun c => ?_) (fun c => ⟨?_, fun x6 e6 x7 e7 => hK c ⟨by rw [e7, nI_1], e6⟩⟩)
  · have e : j = k := by omega
    subst e
    refine pk_le j n (fun c2 => ?_) (fun c2 => ?_)
    · rw [if_pos c2] at hP; exact hP
    · rw [if_neg (by omega)] at hP; exact hP
  · rw [nI_1]
    exact nI_ne0 (by omega) (by omega)
def sumC (a b : Nat) : Nat → Nat
  | 0 => 0
  | k + 1 => sumC a b k + chN a (k + 1) * chN b (k + 1)
theorem sumC_all : ((List.range 64).all fun ml => (List.range 64).all fun me => ml &&& me != 0 || (pairs ml me).length == sumC (pop6 ml) (pop6 me) (pop6 ml)) = true := by decide +kernel
theorem sumC_eq {ml me : Nat} (h1 : ml < 64) (h2 : me < 64) (hd : ml &&& me = 0) : (pairs ml me).length = sumC (pop6 ml) (pop6 me) (pop6 ml) := by
  have h := List.all_eq_true.mp (List.all_eq_true.mp sumC_all ml (List.mem_range.mpr h1)) me (List.mem_range.mpr h2)
  simpa [hd] using h
theorem mchoices_sum {a b : Nat} {P : Int32 → Prop} (ha : a < 7) (hb : b < 7) (hP : P (nI (sumC a b a))) : kl2 (fun (x_7 : Int32) (x_8 : Int32) K49 => ((nI a < x_8 → P x_7) ∧ (¬ nI a < x_8 → (wp_X11_choose (nI a) x_8 (fun r_10 => (wp_X11_choose (nI b) x_8 (fun r_11 => (∀ x_12 : Int32, x_12 = (x_7 + (r_10 * r_11)) → (∀ x_13 : Int32, x_13 = x_8 + (1 : Int32) → K49 x_12 x_13))))))))) (0 : Int32) (1 : Int32) := by
  refine kc2 a (fun j x y => y = nI (j + 1) ∧ x = nI (sumC a b j)) ⟨rfl, rfl⟩ ?_
  rintro j x y K hj ⟨rfl, rfl⟩ hK
  refine pk_lt a (j + 1) (fun c => ?_) (fun c => choose_spec ha (by omega) (choose_spec hb (by omega) (fun x12 e12 x13 e13 => hK c ⟨by rw [e13, nI_1], ?_⟩)))
  · have e : j = a := by omega
    subst e
    exact hP
  · rw [e12, pk_mul, nI_add]; rfl
theorem cchoices {ml me : Nat} {P : Int32 → Int32 → Int32 → Prop} (h1 : ml < 64) (h2 : me < 64) (hd : ml &&& me = 0) (hP : ∀ o i, P (nI (pairs ml me).length) o i) : kl3 (fun (x_9 : Int32) (v_10 : Int32) (v_11 : Int32) K41 => (((64 : Int32) ≤ x_9 → P x_9 v_10 v_11) ∧ (¬ (64 : Int32) ≤ x_9 → (wp_X1_next (nI ml) (nI me) v_10 v_11 (fun r_15 v_13 v_14 => ((r_15 = 0 → P x_9 v_13 v_14) ∧ (¬ r_15 = 0 → (∀ x_17 : Int32, x_17 = x_9 + (1 : Int32) → K41 x_17 v_13 v_14)))))))) (0 : Int32) (nI (strt ml me)) (nI 0) := by
  obtain ⟨hc, hl⟩ := pairs_chain h1 h2 hd
  refine kr3 (pairs ml me) (fun l x v w => ∃ o i, v = nI o ∧ w = nI i ∧ RpC ml me o i l ∧ l.length ≤ (pairs ml me).length ∧ x = nI ((pairs ml me).length - l.length)) ⟨_, _, rfl, rfl, hc, Nat.le_refl _, by rw [Nat.sub_self]; rfl⟩ ?_ ?_
  · rintro x v w K ⟨o, i, rfl, rfl, hc, -, rfl⟩
    refine pk_le 64 _ (fun c => ?_) (fun c => next_nil h1 h2 hc (fun o i => b_no (hP _ _))) rfl rfl (by omega) (by omega)
    simp at c
    omega
  · rintro q l x v w K ⟨o, i, rfl, rfl, hc, hle, rfl⟩ hK
    rw [List.length_cons] at hle ⊢
    refine pk_le 64 _ (fun c => by omega) (fun c => next_cons h1 h2 hc (b_yes (fun x17 e17 => hK ⟨_, _, rfl, rfl, hc.2.2.2, by omega, ?_⟩))) rfl rfl (by omega) (by omega)
    rw [e17, nI_1]
    congr 1
    omega
theorem s_choices : S_choices := by
  intro p0 lst lf lwa lsa _ _ _ _ mf mat mw _ _ _ _ _ _ _ _ _ _ _ _ _ _ _ _ _ _ hD
  obtain ⟨n, r, t, h, w, b, HF, HO, HI, s, ⟨hH, hS, hT, -, hL, rfl, -, -, hM, hat, -⟩, -⟩ := hD
  obtain ⟨rfl, -, -, -, -, -, hwa, hsa⟩ := hL
  obtain ⟨rfl, -, -, hmw, -⟩ := hM
  obtain ⟨hn2, hn6, hr, ht, hwb⟩ := hH
  have hg : StG n r b s := ⟨hn6, hS⟩
  unfold wp_X10_choices wp_X11_choices
  rcases floor_cases (by omega) hn6 p0 with ⟨f, hf, rfl⟩ | hb
  · have h1 := outM_lt w s f
    have h2 := inM_lt s f
    have hd := out_in_dis w s (f := f) (by omega)
    have hw : ∀ k, k < r → mw k = nI (w k) ∧ w k < n := fun k hk => ⟨hmw k hk, (hwb k hk).1⟩
    refine hf_in hn6 hf (b_yes' ?_)
    unfold wp_X5_mayLeave wp_X5_mayEnter
    refine mayLeave_enc (t := t) (b := b) hg hr (by omega) (hwa f (by omega)) (mayEnter_enc (t := t) (w := w) hg hr hf (hsa f (by omega)) (begin_spec h1 h2 (cchoices h1 h2 hd (fun o i => ?_))))
    have p1 := pop_le (outM w s f)
    have p2 := pop_le (inM s f)
    refine nf_in hn6 hf (b_no (mayOf_spec hg hr (by omega) hat hw ?_))
    rw [if_neg (by decide)]
    refine many_spec h1 (mayOf_spec hg hr (by omega) hat hw ?_)
    rw [if_pos rfl]
    refine many_spec h2 (mchoices_sum (by omega) (by omega) ?_)
    rw [sumC_eq h1 h2 hd]
  · exact hf_out hb (b_no' (nf_out (by omega) hn6 hb (b_yes rfl)))
