/-! PURE ROWS: hire -/
def putS (s : List Nat) (k v : Nat) : List Nat := [0, 1, 2, 3, 4, 5].map fun i => if i = k then v else pz s i
theorem putS_pz (s : List Nat) (k v i : Nat) (hi : i < 6) : pz (putS s k v) i = if i = k then v else pz s i := by
  rcases (show i = 0 ∨ i = 1 ∨ i = 2 ∨ i = 3 ∨ i = 4 ∨ i = 5 by omega) with rfl | rfl | rfl | rfl | rfl | rfl <;> rfl
def Can (n : Nat) (w : Nat → Nat) (m : Nat) (s : List Nat) : Prop := ∃ k, rch n w m k s
section HIRE
variable {n r : Nat} {w b : Nat → Nat} {s : List Nat}
theorem putS_ok (hg : StG n r b s) {j f : Nat} (hj : j < 2) (hf : f < n) : StG n r b (putS s (4 + j) f) := by
  obtain ⟨h6, hl, h1, h2, h3⟩ := hg
  refine ⟨h6, rfl, fun k hk hr => ?_, fun k hk hr => ?_, fun k hk hk6 => ?_⟩
  · rw [putS_pz _ _ _ _ (by omega), if_neg (by omega)]; exact h1 k hk hr
  · rw [putS_pz _ _ _ _ (by omega), if_neg (by omega)]; exact h2 k hk hr
  · rw [putS_pz _ _ _ _ hk6]
    split
    · exact Or.inl hf
    · exact h3 k hk hk6
theorem ws_put (hz : PzOk s) {j f : Nat} (hj : j < 2) (hf : f < 6) {P : Int32 → Prop} (hP : P (nI (encS (putS s (4 + j) f)))) : wp_X8_withStrangers (nI (encS s)) (nI (2 ^ (4 + j))) (nI f) P := by
  obtain ⟨ha, hd, hp, hq⟩ := encS_parts hz
  have fe : plc f = f := by unfold plc; rw [if_neg (by omega), if_neg (by omega)]
  have hb : ∀ v, bits4 (fun k => pz (putS s (4 + j) f) k == v) = bits4 (fun k => pz s k == v) := by
    intro v
    apply tb_ext (n := 4) (bits4_lt _) (bits4_lt _)
    intro k hk
    rw [bits4_tb, bits4_tb, putS_pz _ _ _ _ (by omega), if_neg (by omega)]
  refine ws_spec ha hd hp hq (by rcases (show j = 0 ∨ j = 1 by omega) with rfl | rfl <;> decide) (by omega) ?_
  have e : E4 (bits4 fun k => pz s k == 6) (bits4 fun k => pz s k == 7) (if (2 ^ (4 + j)).testBit 4 = true then f else plc (pz s 4)) (if (2 ^ (4 + j)).testBit 5 = true then f else plc (pz s 5)) = encS (putS s (4 + j) f) := by
    rw [encS_E, hb, hb, putS_pz _ _ _ _ (by decide), putS_pz _ _ _ _ (by decide)]
    rcases (show j = 0 ∨ j = 1 by omega) with rfl | rfl
    · rw [if_pos (by decide), if_neg (by decide), if_pos (by decide), if_neg (by decide), fe]
    · rw [if_neg (by decide), if_pos (by decide), if_neg (by decide), if_pos (by decide), fe]
  rw [e]; exact hP
/-- the class's search for some, and what it finds -/
theorem cexp_spec (hg : StG n r b s) (hr : r ≤ 4) {wa sa : Nat → Int32} (hwa : ∀ f, f < 6 → wa f = nI (bits4 fun k => decide (k < r) && w k == f)) (hsa : ∀ f, f < 6 → sa f = nI (bits4 fun k => decide (k < r) && b k == f)) {m : Nat} (hm : m < 16) {st cf hl : Nat → Int32} {v1 v2 v3 v4 : Int32}
    {Q : Int32 → Int32 → Int32 → (Nat → Int32) → (Nat → Int32) → (Nat → Int32) → Int32 → Int32 → Int32 → Int32 → Prop}
    (h1 : ∀ tt k sz fl st cf hl v1 v2 v3 v4, tt < 128 → k ≤ 128 → Few n w m k s → (∀ P : Int32 → Prop, P (nI k) → wp_X6_haltsTo (nI tt) sz cf P) → Q (nI tt) sz fl st cf hl v1 v2 v3 v4)
    (h0 : (∀ k, ¬ rch n w m k s) → ∀ sz fl st cf hl v1 v2 v3 v4, Q (-9) sz fl st cf hl v1 v2 v3 v4) :
    wp_X6_explore (nI (encS s)) (nI m) st cf hl (nI n) wa sa v1 v2 v3 v4 (fun sz fl st cf hl v1 v2 v3 v4 => wp_X6_firstWith (nI m) sz st (fun i => Q i sz fl st cf hl v1 v2 v3 v4)) := by
  have hGb := bfs_gd (w := w) hg
  have hlen := hGb.len
  have hB := bfs_spec hlen
  obtain ⟨N, hN, hN0⟩ := bfsX_pre m w 128 0 [(s, 0, 0, 0, 0)] (n := n)
  have hN : bfs n w s = bfsX m n w 128 0 [(s, 0, 0, 0, 0)] ++ N := hN
  refine explore_spec hg hr hwa hsa (by omega) (fun sz fl st cf hl v1 v2 v3 v4 hG hL => first_spec hG hL hm (fun tt x ht => ?_) (fun hno => ?_))
  · generalize bfsX m n w 128 0 [(s, 0, 0, 0, 0)] = L at hG hL ht hN hN0
    have htl := (List.getElem?_eq_some_iff.mp ht.1).1
    have hlL := hG.len
    have ht' : fstT m (bfs n w s) tt x := by
      rw [hN]
      refine ⟨pre_at ht.1, ht.2.1, fun j y hj hy => ht.2.2 j y hj ?_⟩
      rw [List.getElem?_append_left (by omega)] at hy
      exact hy
    have htl' := (List.getElem?_eq_some_iff.mp ht'.1).1
    have hd := dep_le hB tt htl'
    have hf := fst_least hB ht'
    exact h1 tt _ _ _ _ _ _ _ _ _ _ (by omega) (by omega) ⟨hf.1, hf.2⟩ (fun P hP => haltsTo_spec hN hB hlL hL htl hP)
  · have hs : ¬ stopP m (bfsX m n w 128 0 [(s, 0, 0, 0, 0)]) = true := by
      intro z
      unfold stopP at z
      rw [List.any_eq_true] at z
      obtain ⟨e, he, h⟩ := z
      exact hno e he ((tgt_iff hm).mpr (eq_of_beq h))
    have hN1 : N = [] := hN0.resolve_right hs
    rw [hN1, List.append_nil] at hN
    rw [← hN] at hno
    exact h0 (fun k => no_fst hB (fun j y hj => hno y (List.mem_of_getElem? hj)) k) _ _ _ _ _ _ _ _ _
def FirstF (C : Nat → Prop) (a n : Nat) : Option Nat → Prop
  | none => ∀ g, a ≤ g → g < n → ¬ C g
  | some f => a ≤ f ∧ f < n ∧ C f ∧ ∀ g, a ≤ g → g < f → ¬ C g
theorem firstF_one {C : Nat → Prop} {a n : Nat} {x y : Option Nat} (h : FirstF C a n x) (h' : FirstF C a n y) : x = y := by
  cases x with
  | none =>
    cases y with
    | none => rfl
    | some g => exact absurd h'.2.2.1 (h g h'.1 h'.2.1)
  | some f =>
    cases y with
    | none => exact absurd h.2.2.1 (h' f h.1 h.2.1)
    | some g =>
      rcases Nat.lt_trichotomy f g with q | q | q
      · exact absurd h.2.2.1 (h'.2.2.2 f h.1 q)
      · rw [q]
      · exact absurd h'.2.2.1 (h.2.2.2 g h'.1 q)
def First2 (C : Nat → Nat → Prop) (n : Nat) : Option (Nat × Nat) → Prop
  | none => ∀ g, g < n → FirstF (C g) g n none
  | some q => q.1 < n ∧ FirstF (C q.1) q.1 n (some q.2) ∧ ∀ g, g < q.1 → FirstF (C g) g n none
theorem first2_one {C : Nat → Nat → Prop} {n : Nat} {x y : Option (Nat × Nat)} (h : First2 C n x) (h' : First2 C n y) : x = y := by
  cases x with
  | none =>
    cases y with
    | none => rfl
    | some q => exact nomatch firstF_one (h q.1 h'.1) h'.2.1
  | some p =>
    cases y with
    | none => exact nomatch firstF_one (h' p.1 h.1) h.2.1
    | some q =>
      rcases Nat.lt_trichotomy p.1 q.1 with z | z | z
      · exact nomatch firstF_one (h'.2.2 p.1 z) h.2.1
      · have h2 := h.2.1
        rw [z] at h2
        have := Option.some.inj (firstF_one h2 h'.2.1)
        rw [Prod.ext z this]
      · exact nomatch firstF_one (h.2.2 q.1 z) h'.2.1
section FFS
variable {wa sa : Nat → Int32}
theorem ffs_spec (hg : StG n r b s) (hr : r ≤ 4) (hwa : ∀ f, f < 6 → wa f = nI (bits4 fun k => decide (k < r) && w k == f)) (hsa : ∀ f, f < 6 → sa f = nI (bits4 fun k => decide (k < r) && b k == f)) {j a : Nat} (hj : j < 2) (ha : a ≤ n) {sz fl v1 v2 v3 v4 : Int32} {st cf hl : Nat → Int32}
    {P : Int32 → Int32 → Int32 → Int32 → (Nat → Int32) → (Nat → Int32) → (Nat → Int32) → Int32 → Int32 → Int32 → Int32 → Prop} (hP : ∀ res sz fl st cf hl v1 v2 v3 v4, FirstF (fun f => Can n w (2 ^ r - 1) (putS s (4 + j) f)) a n res → P (resI res) 0 sz fl st cf hl v1 v2 v3 v4) :
    wp_X10_floorForStranger (nI (encS s)) (nI j) (nI a) (nI n) (nI r) sz fl st cf hl wa sa v1 v2 v3 v4 P := by
  have hn6 := hg.1
  have hz := hg.2.pz hn6
  obtain ⟨p16, p16'⟩ := pow_16 hr
  unfold wp_X10_floorForStranger wp_X3_riderBits
  rw [rb_I r (by omega)]
  refine kc10 (n - a) (fun i x _ _ _ _ _ _ _ _ _ => x = nI (a + i) ∧ ∀ g, a ≤ g → g < a + i → ¬ Can n w (2 ^ r - 1) (putS s (4 + j) g)) ⟨rfl, fun g h1 h2 => by omega⟩ ?_
  rintro i x v3 v4 f5 f6 f7 v8 v9 v10 v11 K hi ⟨rfl, hno⟩ hK
  refine pk_le n (a + i) (fun c => hP none _ _ _ _ _ _ _ _ _ (fun g h1 h2 => hno g h1 (by omega))) (fun c => ?_)
  have e4 : (1 : Int32) <<< (((4 : Int32) + nI j) &&& 31) = nI (2 ^ (4 + j)) := by
    rw [show (4 : Int32) + nI j = nI (4 + j) from nI_add 4 j]
    exact sh1 (4 + j) (by omega)
  rw [e4]
  refine ws_put hz hj (by omega) ?_
  have hg2 := putS_ok hg hj c (f := a + i)
  refine cexp_spec hg2 hr hwa hsa (m := 2 ^ r - 1) (by omega) (fun tt k sz fl st cf hl v1 v2 v3 v4 htt hk hf _ => ⟨fun z => absurd z (nI_n9 tt htt), fun _ => ?_⟩) (fun hc sz fl st cf hl v1 v2 v3 v4 => ⟨fun _ x25 e25 => hK (by omega) ⟨by rw [e25, nI_1, Nat.add_assoc], fun g h1 h2 => ?_⟩, fun z => absurd rfl z⟩)
  · exact hP (some (a + i)) _ _ _ _ _ _ _ _ _ ⟨by omega, c, ⟨k, hf.1⟩, hno⟩
  · by_cases q : g = a + i
    · subst q
      rintro ⟨k, hk⟩
      exact hc k hk
    · exact hno g h1 (by omega)
theorem two_spec (hg : StG n r b s) (hr : r ≤ 4) (hwa : ∀ f, f < 6 → wa f = nI (bits4 fun k => decide (k < r) && w k == f)) (hsa : ∀ f, f < 6 → sa f = nI (bits4 fun k => decide (k < r) && b k == f)) {se sz fl v1 v2 v3 v4 : Int32} {st cf hl : Nat → Int32} (hse : se = 0)
    {P : Int32 → Int32 → Int32 → Int32 → (Nat → Int32) → (Nat → Int32) → (Nat → Int32) → Int32 → Int32 → Int32 → Int32 → Prop}
    (h0 : ∀ sz fl st cf hl v1 v2 v3 v4, First2 (fun f e => Can n w (2 ^ r - 1) (putS (putS s 4 f) 5 e)) n none → P (-9) 0 sz fl st cf hl v1 v2 v3 v4)
    (h1 : ∀ q sz fl st cf hl v1 v2 v3 v4, First2 (fun f e => Can n w (2 ^ r - 1) (putS (putS s 4 f) 5 e)) n (some q) → P (nI (100 + 10 * q.1 + q.2)) 0 sz fl st cf hl v1 v2 v3 v4) :
    wp_X10_hireTwo se (nI (encS s)) (nI n) (nI r) sz fl st cf hl wa sa v1 v2 v3 v4 P := by
  have hn6 := hg.1
  have hz := hg.2.pz hn6
  unfold wp_X10_hireTwo
  refine kc11 n (fun i x v2 _ _ _ _ _ _ _ _ _ => x = nI i ∧ v2 = 0 ∧ ∀ g, g < i → FirstF (fun e => Can n w (2 ^ r - 1) (putS (putS s 4 g) 5 e)) g n none) ⟨rfl, hse, fun g h => absurd h (Nat.not_lt_zero g)⟩ ?_
  rintro i x v2 v3 v4 f5 f6 f7 v8 v9 v10 v11 K hi ⟨rfl, rfl, hno⟩ hK
  refine pk_le n i (fun c => h0 _ _ _ _ _ _ _ _ _ (fun g hg => hno g (by omega))) (fun c => ?_)
  show wp_X8_withStrangers _ (nI (2 ^ (4 + 0))) _ _
  refine ws_put hz (j := 0) (by decide) (by omega) ?_
  show wp_X10_floorForStranger _ (nI 1) _ _ _ _ _ _ _ _ _ _ _ _ _ _ _
  refine ffs_spec (putS_ok hg (by decide) c) hr hwa hsa (j := 1) (by decide) hi (fun res sz fl st cf hl v1 v2 v3 v4 hres => ?_)
  cases res with
  | none =>
    refine ⟨fun _ x26 e26 => hK c ⟨by rw [e26, nI_1], rfl, fun g hgi => ?_⟩, fun z => absurd rfl z⟩
    by_cases q : g = i
    · subst q; exact hres
    · exact hno g (by omega)
  | some e =>
    have := hres.2.1
    refine ⟨fun z => absurd z (nI_n9 e (by omega)), fun _ => ?_⟩
    have ev : ((100 : Int32) + ((10 : Int32) * nI i)) + resI (some e) = nI (100 + 10 * i + e) := by
      rw [show (10 : Int32) * nI i = nI (10 * i) from pk_mul 10 i, show (100 : Int32) + nI (10 * i) = nI (100 + 10 * i) from nI_add 100 _]
      exact nI_add _ _
    rw [ev]
    exact h1 (i, e) _ _ _ _ _ _ _ _ _ ⟨c, hres, hno⟩
end FFS
/-! the reference's -/
def putO (s : List Nat) (k : Nat) : Option Nat → List Nat
  | none => s
  | some f => putS s k f
theorem now_put {mat mw ms : Nat → Int32} (hN : NowOk n r w b s mat mw ms) {j f : Nat} (hj : j < 2) (hf : f < n) {mat2 : Nat → Int32} (h2 : mat2 = upd mat (4 + j) (nI f)) : NowOk n r w b (putS s (4 + j) f) mat2 mw ms := by
  obtain ⟨hg, hr, hat, hw, hms⟩ := hN
  refine ⟨putS_ok hg hj hf, hr, fun k hk => ?_, hw, hms⟩
  rw [putS_pz _ _ _ _ hk, h2]
  by_cases q : k = 4 + j
  · subst q; rw [pk_us, if_pos rfl]
  · rw [pk_un q, if_neg q]; exact hat k hk
theorem reset_spec {t : Nat} {mat : Nat → Int32} (hT : StrOk t s) (ht : t ≤ 2) (hat : ∀ k, k < 4 + t → mat k = nI (pz s k)) {P : (Nat → Int32) → Prop} (hP : ∀ g, (∀ k, k < 6 → g k = nI (pz s k)) → P g) :
    kl2 (fun (x_12 : Int32) (f_13 : Nat → Int32) K62 => (((6 : Int32) ≤ x_12 → P f_13) ∧ (¬ (6 : Int32) ≤ x_12 → (vp_in x_12 6 ∧ (∀ f_16 : Nat → Int32, f_16 = (upd f_13 x_12.toNatClampNeg (8 : Int32)) → (∀ x_17 : Int32, x_17 = x_12 + (1 : Int32) → K62 x_17 f_16)))))) (nI (4 + t)) mat := by
  refine kc2 (2 - t) (fun i x g => x = nI (4 + t + i) ∧ ∀ k, k < 4 + t + i → g k = nI (pz s k)) ⟨rfl, hat⟩ ?_
  rintro i x g K hi ⟨rfl, hg⟩ hK
  refine pk_le 6 (4 + t + i) (fun c => hP g (fun k hk => hg k (by omega))) (fun c => ⟨vp_in_nI c (by decide), fun f16 e16 x17 e17 => hK (by omega) ⟨by rw [e17, nI_1, Nat.add_assoc], fun k hk => ?_⟩⟩)
  rw [nI_clamp (by omega)] at e16
  rw [e16]
  by_cases q : k = 4 + t + i
  · subst q
    rw [pk_us]
    have := (hT (t + i) (by omega)).mpr (by omega)
    rw [← Nat.add_assoc] at this
    rw [this]; rfl
  · rw [pk_un q]; exact hg k (by omega)
theorem canBy_spec {t : Nat} {mat mw ms was row now before far : Nat → Int32} (hN : NowOk n r w b s mat mw ms) (hT : StrOk t s) (ht : t ≤ 2) {x y : Option Nat} (hx : ∀ f, x = some f → f < n ∧ t < 2) (hy : ∀ f, y = some f → f < n ∧ t = 0)
    {P : Int32 → Int32 → (Nat → Int32) → (Nat → Int32) → (Nat → Int32) → (Nat → Int32) → (Nat → Int32) → (Nat → Int32) → Prop}
    (h1 : Can n w (2 ^ r - 1) (putO (putO s (4 + t) x) (4 + (t + 1)) y) → ∀ v g f1 f2 f3 f4 f5, (∀ k, k < 6 → g k = nI (pz s k)) → P 1 v g f1 f2 f3 f4 f5)
    (h0 : ¬ Can n w (2 ^ r - 1) (putO (putO s (4 + t) x) (4 + (t + 1)) y) → ∀ v g f1 f2 f3 f4 f5, (∀ k, k < 6 → g k = nI (pz s k)) → P 0 v g f1 f2 f3 f4 f5) :
    wp_X11_canBy (resI x) (resI y) (nI n) (nI r) (nI t) mat was row now ms mw before far P := by
  have hN0 := hN
  obtain ⟨hg, hr, hat, -⟩ := hN0
  have hn6 := hg.1
  obtain ⟨p16, p16'⟩ := pow_16 hr
  unfold wp_X11_canBy
  intro x1 e1
  rw [show (4 : Int32) + nI t = nI (4 + t) from nI_add 4 t] at e1
  subst e1
  rw [rb_I r (by omega)]
  have ans : ∀ {mat2 : Nat → Int32} {s2 : List Nat}, NowOk n r w b s2 mat2 mw ms → s2 = putO (putO s (4 + t) x) (4 + (t + 1)) y → (∀ k, k < 4 + t → mat2 k = nI (pz s k)) → wp_X11_fewestOf (nI (2 ^ r - 1)) (nI n) was mat2 row now ms mw before far (fun r_10 v_4 f_5 f_6 f_7 f_8 f_9 => (((99999 : Int32) ≤ r_10 → (kl2 (fun (x_12 : Int32) (f_13 : Nat → Int32) K62 => (((6 : Int32) ≤ x_12 → P (0 : Int32) v_4 f_13 f_5 f_6 f_7 f_8 f_9) ∧ (¬ (6 : Int32) ≤ x_12 → (vp_in x_12 6 ∧ (∀ f_16 : Nat → Int32, f_16 = (upd f_13 x_12.toNatClampNeg (8 : Int32)) → (∀ x_17 : Int32, x_17 = x_12 + (1 : Int32) → K62 x_17 f_16)))))) (nI (4 + t)) mat2)) ∧ (¬ (99999 : Int32) ≤ r_10 → (kl2 (fun (x_18 : Int32) (f_19 : Nat → Int32) K62 => (((6 : Int32) ≤ x_18 → P (1 : Int32) v_4 f_19 f_5 f_6 f_7 f_8 f_9) ∧ (¬ (6 : Int32) ≤ x_18 → (vp_in x_18 6 ∧ (∀ f_22 : Nat → Int32, f_22 = (upd f_19 x_18.toNatClampNeg (8 : Int32)) → (∀ x_23 : Int32, x_23 = x_18 + (1 : Int32) → K62 x_23 f_22)))))) (nI (4 + t)) mat2)))) := by
    rintro mat2 s2 hN2 es hk
    refine fewestOf_spec hN2 (by omega) (fun v0 v f g h2 h3 far2 hv _ _ _ _ => ?_)
    rcases hv with ⟨a1, a2⟩ | ⟨a1, rfl⟩
    · refine pk_le 99999 v0 (fun c => by omega) (fun c => reset_spec hT ht hk (fun g2 hg2 => h1 ?_ _ _ _ _ _ _ _ hg2))
      rw [← es]; exact ⟨v0, a2.1⟩
    · refine pk_le 99999 99999 (fun c => reset_spec hT ht hk (fun g2 hg2 => h0 ?_ _ _ _ _ _ _ _ hg2)) (fun c => by omega)
      rw [← es]
      rintro ⟨k, hk⟩
      exact a1 k hk
  have low : ∀ k, k < 4 + t → mat k = nI (pz s k) := fun k hk => hat k (by omega)
  cases x with
  | none =>
    cases y with
    | none => exact ⟨fun _ => ⟨fun _ => ans hN rfl low, fun z => absurd rfl z⟩, fun z => absurd rfl z⟩
    | some e =>
      obtain ⟨y1, y2⟩ := hy e rfl
      subst y2
      refine ⟨fun _ => ⟨fun z => absurd z (nI_n9 e (by omega)), fun _ => ⟨vp_in_nI (n := 5) (by decide) (by decide), fun f25 e25 => ?_⟩⟩, fun z => absurd rfl z⟩
      rw [show (nI (4 + 0) + (1 : Int32)).toNatClampNeg = 4 + 1 from by decide] at e25
      exact ans (now_put hN (by decide) y1 e25) rfl (fun k hk => by rw [e25, pk_un (by omega)]; exact low k hk)
  | some f =>
    obtain ⟨x1, x2⟩ := hx f rfl
    refine ⟨fun z => absurd z (nI_n9 f (by omega)), fun _ => ⟨vp_in_nI (by omega) (by decide), fun f47 e47 => ?_⟩⟩
    rw [nI_clamp (by omega)] at e47
    have hN2 := now_put hN x2 x1 e47
    cases y with
    | none => exact ⟨fun _ => ans hN2 rfl (fun k hk => by rw [e47, pk_un (by omega)]; exact low k hk), fun z => absurd rfl z⟩
    | some e =>
      obtain ⟨y1, y2⟩ := hy e rfl
      subst y2
      refine ⟨fun z => absurd z (nI_n9 e (by omega)), fun _ => ⟨vp_in_nI (n := 5) (by decide) (by decide), fun f70 e70 => ?_⟩⟩
      rw [show (nI (4 + 0) + (1 : Int32)).toNatClampNeg = 4 + 1 from by decide] at e70
      exact ans (now_put hN2 (by decide) y1 e70) rfl (fun k hk => by rw [e70, pk_un (by omega), e47, pk_un (by omega)]; exact low k hk)
/-- what hire answers -/
def HireV (n r : Nat) (w : Nat → Nat) (s : List Nat) (t : Nat) (v : Int32) : Prop :=
  (Can n w (2 ^ r - 1) s ∧ v = 0) ∨
  (¬ Can n w (2 ^ r - 1) s ∧ t < 2 ∧ ∃ f, FirstF (fun f => Can n w (2 ^ r - 1) (putS s (4 + t) f)) 0 n (some f) ∧ v = nI (10 + f)) ∨
  (¬ Can n w (2 ^ r - 1) s ∧ FirstF (fun f => Can n w (2 ^ r - 1) (putS s (4 + t) f)) 0 n none ∧ t = 0 ∧ ∃ q, First2 (fun f e => Can n w (2 ^ r - 1) (putS (putS s 4 f) 5 e)) n (some q) ∧ v = nI (100 + 10 * q.1 + q.2)) ∨
  (¬ Can n w (2 ^ r - 1) s ∧ (t < 2 → FirstF (fun f => Can n w (2 ^ r - 1) (putS s (4 + t) f)) 0 n none) ∧ (t = 0 → First2 (fun f e => Can n w (2 ^ r - 1) (putS (putS s 4 f) 5 e)) n none) ∧ v = -9)
theorem hireV_one {t : Nat} {v v' : Int32} (h : HireV n r w s t v) (h' : HireV n r w s t v') : v = v' := by
  rcases h with ⟨a, rfl⟩ | ⟨a, a2, f, a3, rfl⟩ | ⟨a, a2, a3, q, a4, rfl⟩ | ⟨a, a2, a3, rfl⟩ <;> rcases h' with ⟨c, rfl⟩ | ⟨c, c2, g, c3, rfl⟩ | ⟨c, c2, c3, p, c4, rfl⟩ | ⟨c, c2, c3, rfl⟩
  · rfl
  · exact absurd a c
  · exact absurd a c
  · exact absurd a c
  · exact absurd c a
  · rw [Option.some.inj (firstF_one a3 c3)]
  · exact nomatch firstF_one a3 c2
  · exact nomatch firstF_one a3 (c2 a2)
  · exact absurd c a
  · exact nomatch firstF_one a2 c3
  · rw [Option.some.inj (first2_one a4 c4)]
  · exact nomatch first2_one a4 (c3 a3)
  · exact absurd c a
  · exact nomatch firstF_one c3 (a2 c2)
  · exact nomatch first2_one c4 (a3 c3)
  · rfl
theorem mhire_spec {t : Nat} {mat mw ms was row now before far : Nat → Int32} (hN : NowOk n r w b s mat mw ms) (hT : StrOk t s) (ht : t ≤ 2) {P : Int32 → Int32 → Int32 → (Nat → Int32) → (Nat → Int32) → (Nat → Int32) → (Nat → Int32) → (Nat → Int32) → (Nat → Int32) → Prop}
    (hP : ∀ v u g f1 f2 f3 f4 f5, HireV n r w s t v → (∀ k, k < 6 → g k = nI (pz s k)) → P v 0 u g f1 f2 f3 f4 f5) : wp_X11_hire (nI n) (nI r) (nI t) mat was row now ms mw before far P := by
  have hN0 := hN
  obtain ⟨hg, hr, -, hw, hms⟩ := hN0
  have hn6 := hg.1
  have nw : ∀ {g : Nat → Int32}, (∀ k, k < 6 → g k = nI (pz s k)) → NowOk n r w b s g mw ms := fun h => ⟨hg, hr, h, hw, hms⟩
  unfold wp_X11_hire
  show wp_X11_canBy (resI none) (resI none) _ _ _ _ _ _ _ _ _ _ _ _
  refine canBy_spec (x := none) (y := none) hN hT ht (fun f h => nomatch h) (fun f h => nomatch h) (fun hc v g f1 f2 f3 f4 f5 hg2 => b_yes (hP _ _ _ _ _ _ _ _ (Or.inl ⟨hc, rfl⟩) hg2)) (fun hc v g f1 f2 f3 f4 f5 hg2 => b_no ?_)
  have hc : ¬ Can n w (2 ^ r - 1) s := hc
  have loop2 : ∀ {v : Int32} {g f1 f2 f3 f4 f5 : Nat → Int32}, (∀ k, k < 6 → g k = nI (pz s k)) → (t < 2 → FirstF (fun f => Can n w (2 ^ r - 1) (putS s (4 + t) f)) 0 n none) → kl8 (fun (x_19 : Int32) (v_20 : Int32) (f_21 : Nat → Int32) (f_22 : Nat → Int32) (f_23 : Nat → Int32) (f_24 : Nat → Int32) (f_25 : Nat → Int32) (f_26 : Nat → Int32) K59 => ((nI n ≤ x_19 → P (-9 : Int32) (0 : Int32) v_20 f_21 f_22 f_23 f_24 f_25 f_26) ∧ (¬ nI n ≤ x_19 → ((¬ nI t = 0 → P (-9 : Int32) (0 : Int32) v_20 f_21 f_22 f_23 f_24 f_25 f_26) ∧ (nI t = 0 → (kl8 (fun (x_29 : Int32) (v_30 : Int32) (f_31 : Nat → Int32) (f_32 : Nat → Int32) (f_33 : Nat → Int32) (f_34 : Nat → Int32) (f_35 : Nat → Int32) (f_36 : Nat → Int32) K76 => ((nI n ≤ x_29 → (∀ x_38 : Int32, x_38 = x_19 + (1 : Int32) → K59 x_38 v_30 f_31 f_32 f_33 f_34 f_35 f_36)) ∧ (¬ nI n ≤ x_29 → (wp_X11_canBy x_19 x_29 (nI n) (nI r) (nI t) f_31 f_32 f_33 f_34 ms mw f_35 f_36 (fun r_46 v_39 f_40 f_41 f_42 f_43 f_44 f_45 => ((r_46 = 0 → (∀ x_48 : Int32, x_48 = x_29 + (1 : Int32) → K76 x_48 v_39 f_40 f_41 f_42 f_43 f_44 f_45)) ∧ (¬ r_46 = 0 → P (((100 : Int32) + ((10 : Int32) * x_19)) + x_29) (0 : Int32) v_39 f_40 f_41 f_42 f_43 f_44 f_45))))))) x_19 v_20 f_21 f_22 f_23 f_24 f_25 f_26)))))) (0 : Int32) v g f1 f2 f3 f4 f5 := by
    intro v g f1 f2 f3 f4 f5 hg2 hone
    refine kc8 n (fun i x _ g _ _ _ _ _ => x = nI i ∧ (∀ k, k < 6 → g k = nI (pz s k)) ∧ ∀ u, u < i → FirstF (fun e => Can n w (2 ^ r - 1) (putS (putS s 4 u) 5 e)) u n none) ⟨rfl, hg2, fun u h => absurd h (Nat.not_lt_zero u)⟩ ?_
    rintro i x v20 g f22 f23 f24 f25 f26 K hi ⟨rfl, hg3, hno⟩ hK
    refine pk_le n i (fun c => hP _ _ _ _ _ _ _ _ (Or.inr (Or.inr (Or.inr ⟨hc, hone, fun _ u hu => hno u (by omega), rfl⟩))) hg3) (fun c => pk_ne t 0 (fun ct => ?_) (fun ct => hP _ _ _ _ _ _ _ _ (Or.inr (Or.inr (Or.inr ⟨hc, hone, fun z => absurd z ct, rfl⟩))) hg3))
    subst ct
    refine kc8 (n - i) (fun j x _ g _ _ _ _ _ => x = nI (i + j) ∧ (∀ k, k < 6 → g k = nI (pz s k)) ∧ ∀ e, i ≤ e → e < i + j → ¬ Can n w (2 ^ r - 1) (putS (putS s 4 i) 5 e)) ⟨rfl, hg3, fun e h1 h2 => by omega⟩ ?_
    rintro j x v30 g f32 f33 f34 f35 f36 K2 hj ⟨rfl, hg4, hno2⟩ hK2
    refine pk_le n (i + j) (fun c2 x38 e38 => hK c ⟨by rw [e38, nI_1], hg4, fun u hu => ?_⟩) (fun c2 => ?_)
    · by_cases q : u = i
      · subst q
        exact fun e h1 h2 => hno2 e h1 (by omega)
      · exact hno u (by omega)
    · show wp_X11_canBy (resI (some i)) (resI (some (i + j))) _ _ _ _ _ _ _ _ _ _ _ _
      refine canBy_spec (nw hg4) hT ht (fun f h => by cases h; exact ⟨c, by decide⟩) (fun f h => by cases h; exact ⟨c2, rfl⟩) (fun hcan v g f1 f2 f3 f4 f5 hg5 => b_yes ?_) (fun hcan v g f1 f2 f3 f4 f5 hg5 => b_no (fun x48 e48 => hK2 (by omega) ⟨by rw [e48, nI_1, Nat.add_assoc], hg5, fun e h1 h2 => ?_⟩))
      · have ev : ((100 : Int32) + ((10 : Int32) * nI i)) + nI (i + j) = nI (100 + 10 * i + (i + j)) := by
          rw [show (10 : Int32) * nI i = nI (10 * i) from pk_mul 10 i, show (100 : Int32) + nI (10 * i) = nI (100 + 10 * i) from nI_add 100 _, nI_add]
        rw [ev]
        exact hP _ _ _ _ _ _ _ _ (Or.inr (Or.inr (Or.inl ⟨hc, hone (by decide), rfl, (i, i + j), ⟨c, ⟨by omega, c2, hcan, hno2⟩, hno⟩, rfl⟩))) hg5
      · by_cases q : e = i + j
        · subst q; exact hcan
        · exact hno2 e h1 (by omega)
  refine kc8 n (fun i x _ g _ _ _ _ _ => x = nI i ∧ (∀ k, k < 6 → g k = nI (pz s k)) ∧ ∀ u, u < i → ¬ Can n w (2 ^ r - 1) (putS s (4 + t) u)) ⟨rfl, hg2, fun u h => absurd h (Nat.not_lt_zero u)⟩ ?_
  rintro i x v11 g f13 f14 f15 f16 f17 K hi ⟨rfl, hg3, hno⟩ hK
  refine pk_le n i (fun c => loop2 hg3 (fun _ u _ hu => hno u (by omega))) (fun c => pk_le 2 t (fun c2 => loop2 hg3 (fun z => by omega)) (fun c2 => ?_))
  show wp_X11_canBy (resI (some i)) (resI none) _ _ _ _ _ _ _ _ _ _ _ _
  refine canBy_spec (x := some i) (y := none) (nw hg3) hT ht (fun f h => by cases h; exact ⟨c, c2⟩) (fun f h => nomatch h) (fun hcan v g f1 f2 f3 f4 f5 hg5 => b_yes ?_) (fun hcan v g f1 f2 f3 f4 f5 hg5 => b_no (fun x48 e48 => hK c ⟨by rw [e48, nI_1], hg5, fun u hu => ?_⟩))
  · rw [show (10 : Int32) + nI i = nI (10 + i) from nI_add 10 i]
    exact hP _ _ _ _ _ _ _ _ (Or.inr (Or.inl ⟨hc, c2, i, ⟨Nat.zero_le _, c, hcan, fun u _ hu => hno u hu⟩, rfl⟩)) hg5
  · by_cases q : u = i
    · subst q; exact hcan
    · exact hno u (by omega)
end HIRE
theorem s_hire : S_hire := by
  intro sea lst ssz fl sst scf shl lf lr lt lwa lsa v1 v2 v3 v4 mf mr mt mat was row now ms mw before far lsz lw ls lrow mho mfl mh mmade hD
  obtain ⟨n, r, t, h, w, b, HF, HO, HI, s, hC, hS⟩ := hD
  obtain ⟨hg, hr, elf, em, er, emr, elst, hwa, hsa⟩ := hC.st
  have hN := hC.now
  have hn6 := hg.1
  obtain ⟨p16, p16'⟩ := pow_16 hr
  have hT : StrOk t s := hC.2.2.1
  have ht : t ≤ 2 := hC.1.2.2.2.1
  have elt : lt = nI t := hC.2.2.2.2.1.2.2.1
  have emt : mt = nI t := hC.2.2.2.2.2.2.2.2.1.2.2.1
  -- the reference, when the class's answer is known
  have R : ∀ {v se sz : Int32} {st cf hl : Nat → Int32}, HireV n r w s t v → (se = 0 ∨ (se = 1 ∧ SearchL (bfs n w s) sz st cf hl)) → wp_X11_hire mf mr mt mat was row now ms mw before far (fun r2 z0 z1 z2 z3 z4 z5 z6 z7 => v = r2 ∧ RD lf lr lt lst lsz lw ls lwa lsa lrow se sz st cf hl mf mr mt mho mfl mh z2 mw ms mmade) := by
    intro v se sz st cf hl hv hse
    rw [em, emr, emt]
    refine mhire_spec hN hT ht (fun v' u g f1 f2 f3 f4 f5 hv' hg2 => ⟨hireV_one hv hv', ?_⟩)
    rw [← em, ← emr, ← emt]
    refine ⟨n, r, t, h, w, b, HF, HO, HI, s, core_cong hC (fun _ _ => rfl) (fun _ _ => rfl) (fun _ _ => rfl) (fun _ _ => rfl) (fun _ _ => rfl) (fun k hk => ?_) (fun _ _ => rfl) (fun _ _ => rfl) (fun _ _ => rfl), hse⟩
    rw [hg2 k hk, hN.2.2.1 k hk]
  unfold wp_X10_hire
  refine searchAll_spec hC hS (fun sz fl st cf hl v1 v2 v3 v4 hL => ?_)
  unfold wp_X3_riderBits
  rw [er, rb_I r (by omega)]
  have hG := bfs_gd (w := w) hg
  have hlen := hG.len
  have hB := bfs_spec hlen
  have er' := er
  refine first_spec hG hL (by omega) (fun tt x htt => ?_) (fun hno => ?_)
  · have htl := (List.getElem?_eq_some_iff.mp htt.1).1
    refine ⟨fun z => absurd z (nI_n9 tt (by omega)), fun _ => ?_⟩
    rw [← er]
    exact R (Or.inl ⟨⟨_, (fst_least hB htt).1⟩, rfl⟩) (Or.inr ⟨rfl, hL⟩)
  · have hc : ¬ Can n w (2 ^ r - 1) s := fun ⟨k, hk⟩ => no_fst hB (fun j y hj => hno y (List.mem_of_getElem? hj)) k hk
    refine ⟨fun _ => ?_, fun z => absurd rfl z⟩
    rw [elt, elf, elst]
    have R' : ∀ {v se sz : Int32} {st cf hl : Nat → Int32}, HireV n r w s t v → (se = 0 ∨ (se = 1 ∧ SearchL (bfs n w s) sz st cf hl)) → wp_X11_hire mf mr mt mat was row now ms mw before far (fun r2 z0 z1 z2 z3 z4 z5 z6 z7 => v = r2 ∧ RD (nI n) (nI r) (nI t) (nI (encS s)) lsz lw ls lwa lsa lrow se sz st cf hl mf mr mt mho mfl mh z2 mw ms mmade) := by
      intro v se sz st cf hl hv hse
      have := R hv hse
      rw [elf, er, elt, elst] at this
      exact this
    refine pk_le 2 t (fun c => ⟨fun _ => R' (Or.inr (Or.inr (Or.inr ⟨hc, fun z => by omega, fun z => by omega, rfl⟩))) (Or.inr ⟨rfl, hL⟩), fun z => absurd z (nI_ne0 (by omega) (by omega))⟩) (fun c => ?_)
    show wp_X10_floorForStranger _ _ (nI 0) _ _ _ _ _ _ _ _ _ _ _ _ _ _
    refine ffs_spec hg hr hwa hsa c (Nat.zero_le n) (fun res sz fl st cf hl v1 v2 v3 v4 hres => ?_)
    cases res with
    | some f =>
      have := hres.2.1
      refine ⟨fun z => absurd z (nI_n9 f (by omega)), fun _ => ?_⟩
      rw [show (10 : Int32) + resI (some f) = nI (10 + f) from nI_add 10 f]
      exact R' (Or.inr (Or.inl ⟨hc, c, f, hres, rfl⟩)) (Or.inl rfl)
    | none =>
      refine ⟨fun _ => pk_ne t 0 (fun ct => ?_) (fun ct => R' (Or.inr (Or.inr (Or.inr ⟨hc, fun _ => hres, fun z => absurd z ct, rfl⟩))) (Or.inl rfl)), fun z => absurd rfl z⟩
      refine two_spec hg hr hwa hsa rfl (fun sz fl st cf hl v1 v2 v3 v4 h2 => R' (Or.inr (Or.inr (Or.inr ⟨hc, fun _ => hres, fun _ => h2, rfl⟩))) (Or.inl rfl)) (fun q sz fl st cf hl v1 v2 v3 v4 h2 => R' (Or.inr (Or.inr (Or.inl ⟨hc, hres, ct, q, h2, rfl⟩))) (Or.inl rfl))
