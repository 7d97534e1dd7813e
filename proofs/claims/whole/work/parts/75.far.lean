/-! PURE ROWS: how few halts, the reference's way -/
theorem len_le_eq {α : Type} [DecidableEq α] : ∀ (l l' : List α), l.Nodup → (∀ x ∈ l, x ∈ l') → l.length ≤ l'.length
  | [], _, _, _ => Nat.zero_le _
  | a :: l, l', hn, h => by
    obtain ⟨h1, h2⟩ := List.nodup_cons.mp hn
    have ha := h a List.mem_cons_self
    have := len_le_eq l (l'.erase a) h2 (fun x hx => (List.mem_erase_of_ne (fun e => h1 (by rw [← e]; exact hx))).mpr (h x (List.mem_cons_of_mem _ hx)))
    rw [List.length_erase_of_mem ha] at this
    have hp : 0 < l'.length := List.length_pos_of_mem ha
    rw [List.length_cons]
    omega
def Few (n : Nat) (w : Nat → Nat) (m k : Nat) (s : List Nat) : Prop := rch n w m k s ∧ ∀ j, rch n w m j s → k ≤ j
section FEW
variable {n m : Nat} {w : Nat → Nat} {s : List Nat}
theorem few_ex {k : Nat} (h : rch n w m k s) : ∃ j, j ≤ k ∧ Few n w m j s := by
  obtain ⟨j, h1, h2⟩ := lst_nat (fun j => rch n w m j s) ⟨k, h⟩
  exact ⟨j, h2 k h, h1, h2⟩
theorem few_one {k j : Nat} (h : Few n w m k s) (h' : Few n w m j s) : k = j := Nat.le_antisymm (h.2 j h'.1) (h'.2 k h.1)
theorem few_succ {k : Nat} (h : Few n w m (k + 1) s) : ∃ f q, mv n w s f q ∧ Few n w m k (chg s f q.1 q.2) := by
  obtain ⟨f, q, hm, hr⟩ := h.1
  refine ⟨f, q, hm, hr, fun j hj => ?_⟩
  have := h.2 (j + 1) ⟨f, q, hm, hj⟩
  omega
theorem few_step {k f : Nat} {q : Nat × Nat} (hm : mv n w s f q) (h : Few n w m k (chg s f q.1 q.2)) (hn : ∀ j, j ≤ k → ¬ rch n w m j s) : Few n w m (k + 1) s := by
  refine ⟨⟨f, q, hm, h.1⟩, fun j hj => ?_⟩
  apply Nat.lt_of_not_le
  intro z
  exact hn j z hj
def ClosedL (n : Nat) (w : Nat → Nat) (L : List Met1) : Prop := ∀ e ∈ L, ∀ f q, mv n w e.1 f q → ∃ x ∈ L, x.1 = chg e.1 f q.1 q.2
theorem BInv.cl {s0 : List Nat} {L : List Met1} (h : BInv n w s0 L L.length) : ClosedL n w L := by
  intro e he f q hm
  obtain ⟨j, hj⟩ := List.getElem?_of_mem he
  obtain ⟨j', x, h1, h2, -⟩ := h.closed hj hm
  exact ⟨x, List.mem_of_getElem? h1, h2⟩
theorem few_down {L : List Met1} (hc : ClosedL n w L) {t : Nat} : ∀ i, ∀ e ∈ L, Few n w m (t + i) e.1 → ∃ x ∈ L, Few n w m t x.1
  | 0, e, he, h => ⟨e, he, h⟩
  | i + 1, e, he, h => by
    obtain ⟨f, q, hm, h2⟩ := few_succ h
    obtain ⟨x, hx, e1⟩ := hc e he f q hm
    rw [← e1] at h2
    exact few_down hc i x hx h2
theorem few_len {L : List Met1} (hc : ClosedL n w L) {k : Nat} {e : Met1} (he : e ∈ L) (h : Few n w m k e.1) : k < L.length := by
  have key : ∀ k, ∀ e ∈ L, Few n w m k e.1 → ∃ l : List (List Nat), l.length = k + 1 ∧ l.Nodup ∧ (∀ x ∈ l, x ∈ L.map (fun e => e.1) ∧ ∃ k', k' ≤ k ∧ Few n w m k' x) := by
    intro k
    induction k with
    | zero => exact fun e he h => ⟨[e.1], rfl, by simp, fun x hx => by rw [List.mem_singleton.mp hx]; exact ⟨List.mem_map.mpr ⟨e, he, rfl⟩, 0, Nat.le_refl 0, h⟩⟩
    | succ k ih =>
      intro e he h
      obtain ⟨f, q, hm, h2⟩ := few_succ h
      obtain ⟨x, hx, e1⟩ := hc e he f q hm
      rw [← e1] at h2
      obtain ⟨l, l1, l2, l3⟩ := ih x hx h2
      refine ⟨e.1 :: l, by rw [List.length_cons, l1], List.nodup_cons.mpr ⟨fun z => ?_, l2⟩, fun y hy => ?_⟩
      · obtain ⟨-, k', hk', hf⟩ := l3 _ z
        have := few_one h hf
        omega
      · rcases List.mem_cons.mp hy with rfl | hy
        · exact ⟨List.mem_map.mpr ⟨e, he, rfl⟩, k + 1, Nat.le_refl _, h⟩
        · obtain ⟨a, k', b, c⟩ := l3 y hy
          exact ⟨a, k', by omega, c⟩
  obtain ⟨l, l1, l2, l3⟩ := key k e he h
  have := len_le_eq l (L.map fun e => e.1) l2 (fun x hx => (l3 x hx).1)
  rw [List.length_map] at this
  omega
/-- what the reference has noted of a state when so many rounds are through -/
def FvN (n : Nat) (w : Nat → Nat) (m t : Nat) (s : List Nat) (v : Nat) : Prop := (v ≤ t ∧ Few n w m v s) ∨ ((∀ k, k ≤ t → ¬ rch n w m k s) ∧ v = 99999)
theorem fv_le {t v : Nat} (ht : t ≤ 200) (h : FvN n w m t s v) : v ≤ 99999 := by
  rcases h with h | h <;> omega
theorem fv_few {t v : Nat} (h : FvN n w m t s v) (hv : v ≠ 99999) : v ≤ t ∧ Few n w m v s := by
  rcases h with h | h
  · exact h
  · exact absurd h.2 hv
theorem fv_up {t v : Nat} (h : FvN n w m t s v) (hv : v ≠ 99999) : FvN n w m (t + 1) s v := by
  have := fv_few h hv
  exact Or.inl ⟨by omega, this.2⟩
def FvE (n : Nat) (w : Nat → Nat) (m : Nat) (s : List Nat) (v : Nat) : Prop := (v ≤ 128 ∧ Few n w m v s) ∨ ((∀ k, ¬ rch n w m k s) ∧ v = 99999)
end FEW
def minL (φ : Nat × Nat → Nat) (l : List (Nat × Nat)) (a : Nat) : Nat := l.foldl (fun a q => if a ≤ φ q then a else φ q) a
theorem minL_spec (φ : Nat × Nat → Nat) : ∀ (l : List (Nat × Nat)) (a : Nat), minL φ l a ≤ a ∧ (∀ q ∈ l, minL φ l a ≤ φ q) ∧ (minL φ l a = a ∨ ∃ q ∈ l, minL φ l a = φ q)
  | [], a => ⟨Nat.le_refl a, fun q h => absurd h List.not_mem_nil, Or.inl rfl⟩
  | q :: l, a => by
    obtain ⟨h1, h2, h3⟩ := minL_spec φ l (if a ≤ φ q then a else φ q)
    have e : minL φ (q :: l) a = minL φ l (if a ≤ φ q then a else φ q) := rfl
    rw [e]
    have hb : (if a ≤ φ q then a else φ q) ≤ a ∧ (if a ≤ φ q then a else φ q) ≤ φ q := by split <;> omega
    refine ⟨by omega, fun p hp => ?_, ?_⟩
    · rcases List.mem_cons.mp hp with rfl | hp
      · omega
      · exact h2 p hp
    · rcases h3 with h3 | ⟨p, hp, h3⟩
      · by_cases c : a ≤ φ q
        · rw [if_pos c] at h3 ⊢; exact Or.inl h3
        · rw [if_neg c] at h3 ⊢; exact Or.inr ⟨q, List.mem_cons_self, h3⟩
      · exact Or.inr ⟨p, List.mem_cons_of_mem _ hp, h3⟩
section LAYFAR
variable {n r : Nat} {w b : Nat → Nat} {s0 : List Nat} {L : List Met1}
theorem least_spec {f : Nat} {s : List Nat} (hg : StG n r b s) (hf : f < n) {before now far : Nat → Int32} (hnow : ∀ k, k < 6 → now k = nI (pz s k)) {φ : Nat × Nat → Nat} (hφ : ∀ q, mv n w s f q → far (codeN (chg s f q.1 q.2)) = nI (φ q) ∧ φ q ≤ 99999)
    {P : Int32 → (Nat → Int32) → Prop} (hP : ∀ g, P (nI (minL φ (pairs (outM w s f) (inM s f)) 99999)) g) : wp_X11_leastBehind (nI f) (nI (outM w s f)) (nI (inM s f)) before now far P := by
  have h1 := outM_lt w s f
  have h2 := inM_lt s f
  have hall := pairs_mv (n := n) (w := w) (s := s) hf
  rw [outG_pairs] at hP hall
  unfold wp_X11_leastBehind
  refine next0 h1 ?_
  refine kr3 (subs (outM w s f)) (fun l x2 x3 g => ∃ a, a ≤ 99999 ∧ x2 = nI a ∧ x3 = nI (l.headD 0) ∧ NxC (outM w s f) l ∧ (∀ q ∈ outG (inM s f) l, mv n w s f q) ∧ minL φ (outG (inM s f) l) a = minL φ (outG (inM s f) (subs (outM w s f))) 99999) ⟨99999, Nat.le_refl _, rfl, rfl, (subs_chain h1).1, hall, rfl⟩ ?_ ?_
  · rintro x2 x3 g K ⟨a, -, rfl, rfl, -, -, hfm⟩
    have hfm : a = _ := hfm
    subst hfm
    exact b_no (hP _)
  · rintro x l x2 _ g K ⟨a, ha, rfl, rfl, hx, hmv, hfm⟩ hK
    refine ⟨fun z => absurd z (nz64 hx.2.1 hx.1), fun _ => next0 h2 ?_⟩
    rw [outG_cons] at hmv hfm
    refine kr3 (subs (inM s f)) (fun l2 x7 x8 g => ∃ a, a ≤ 99999 ∧ x7 = nI a ∧ x8 = nI (l2.headD 0) ∧ NxC (inM s f) l2 ∧ (∀ q ∈ inG (inM s f) x l2 ++ outG (inM s f) l, mv n w s f q) ∧ minL φ (inG (inM s f) x l2 ++ outG (inM s f) l) a = minL φ (outG (inM s f) (subs (outM w s f))) 99999) ⟨a, ha, rfl, rfl, (subs_chain h2).1, hmv, hfm⟩ ?_ ?_
    · rintro x7 x8 g K2 ⟨a, ha, rfl, rfl, -, hmv, hfm⟩
      exact b_no (nextS h1 hx (hK ⟨a, ha, rfl, rfl, hx.2.2.2, hmv, hfm⟩))
    · rintro y l2 x7 _ g K2 ⟨a, ha, rfl, rfl, hy, hmv, hfm⟩ hK2
      refine ⟨fun z => absurd z (nz64 hy.2.1 hy.1), fun _ => many_spec hx.2.1 (many_spec hy.2.1 ?_)⟩
      have px := pop_le x
      have py := pop_le y
      refine pk_ne (pop6 x) (pop6 y) (fun c => ?_) (fun c => nextS h2 hy (hK2 ⟨a, ha, rfl, rfl, hy.2.2.2, ?_, ?_⟩))
      · rw [inG_yes _ _ _ _ c, List.cons_append] at hmv hfm
        have hm := hmv (x, y) List.mem_cons_self
        have g1 := mv_ok hg hm
        have hz := g1.2.pz g1.1
        obtain ⟨p1, p2⟩ := hφ (x, y) hm
        refine behind_spec (q := (x, y)) hz hm hnow (fun g => ⟨vp_in_nI (codeN_lt hz) (by decide), ?_⟩)
        rintro x19 rfl
        have := codeN_lt hz
        rw [nI_clamp (by omega), p1]
        have e : minL φ ((x, y) :: (inG (inM s f) x l2 ++ outG (inM s f) l)) a = minL φ (inG (inM s f) x l2 ++ outG (inM s f) l) (if a ≤ φ (x, y) then a else φ (x, y)) := rfl
        rw [e] at hfm
        refine pk_le a (φ (x, y)) (fun c2 => nextS h2 hy (hK2 ⟨a, ha, rfl, rfl, hy.2.2.2, fun q hq => hmv q (List.mem_cons_of_mem _ hq), ?_⟩)) (fun c2 => nextS h2 hy (hK2 ⟨φ (x, y), p2, rfl, rfl, hy.2.2.2, fun q hq => hmv q (List.mem_cons_of_mem _ hq), ?_⟩))
        · rw [if_pos c2] at hfm; exact hfm
        · rw [if_neg (by omega)] at hfm; exact hfm
      · rw [inG_no _ _ _ _ c] at hmv; exact hmv
      · rw [inG_no _ _ _ _ c] at hfm; exact hfm
theorem areDone_spec {s : List Nat} {m : Nat} (hm : m < 16) (hz : PzOk s) {now : Nat → Int32} (hnow : ∀ k, k < 6 → now k = nI (pz s k)) {P : Int32 → Prop} (h1 : tgt m s → P 1) (h0 : ¬ tgt m s → P 0) : wp_X11_areDone (nI m) now P := by
  unfold wp_X11_areDone
  refine kc2 4 (fun j x y => y = nI j ∧ ((x = 1 ∧ ∀ k, k < j → m.testBit k = true → pz s k = 7) ∨ (x = 0 ∧ ¬ tgt m s))) ⟨rfl, Or.inl ⟨rfl, fun k hk => absurd hk (Nat.not_lt_zero k)⟩⟩ ?_
  rintro j x y K hj ⟨rfl, hx⟩ hK
  refine pk_le 4 j (fun c => ?_) (fun c => ?_)
  · have e : j = 4 := by omega
    subst e
    rcases hx with ⟨rfl, hx⟩ | ⟨rfl, hx⟩
    · exact ⟨Or.inr rfl, h1 hx⟩
    · exact ⟨Or.inl rfl, h0 hx⟩
  · rcases hx with ⟨rfl, hx⟩ | ⟨rfl, hx⟩
    · have h9 := (hz.2 j (by omega)).1
      refine b_yes (has_spec (by omega) (by omega) (fun cb => b_no (fun x9 e9 => hK c ⟨by rw [e9, nI_1], Or.inl ⟨rfl, fun k hk hb => ?_⟩⟩)) (fun cb => b_yes ⟨vp_in_nI (by omega) (by decide), ?_⟩))
      · by_cases q : k = j
        · subst q; rw [cb] at hb; exact absurd hb (by decide)
        · exact hx k (by omega) hb
      · rw [nI_clamp (by omega), hnow j (by omega)]
        refine pk_ne (pz s j) 7 (fun c7 x e => hK c ⟨by rw [e, nI_1], Or.inl ⟨rfl, fun k hk hb => ?_⟩⟩) (fun c7 x e => hK c ⟨by rw [e, nI_1], Or.inr ⟨rfl, fun ht => c7 (ht j c cb)⟩⟩)
        by_cases q : k = j
        · subst q; exact c7
        · exact hx k (by omega) hb
    · exact b_no (fun x6 e6 => hK c ⟨by rw [e6, nI_1], Or.inr ⟨rfl, hx⟩⟩)
def FarA (n : Nat) (w : Nat → Nat) (m t j : Nat) (L : List Met1) (far : Nat → Int32) : Prop := ∀ i e, L[i]? = some e → ∃ v, far (codeN e.1) = nI v ∧ FvN n w m (if i < j then t + 1 else t) e.1 v
theorem code_ne (hG : Gd n r w b s0 L) {i j : Nat} {x y : Met1} (hx : L[i]? = some x) (hy : L[j]? = some y) (hne : i ≠ j) : codeN x.1 ≠ codeN y.1 := by
  intro z
  have gx := hG.2 x (List.mem_of_getElem? hx)
  have gy := hG.2 y (List.mem_of_getElem? hy)
  have e := codeN_inj gx.1 gy.1 gx.2 gy.2 z
  obtain ⟨i1, i2⟩ := List.getElem?_eq_some_iff.mp hx
  obtain ⟨j1, j2⟩ := List.getElem?_eq_some_iff.mp hy
  have hd := List.pairwise_iff_getElem.mp hG.1
  rcases Nat.lt_or_ge i j with q | q
  · exact hd i j i1 j1 q (by rw [i2, j2]; exact e)
  · exact hd j i j1 i1 (by omega) (by rw [i2, j2]; exact e.symm)
theorem layFar_spec {s : List Nat} {mat mw ms was row now before far : Nat → Int32} (hN : NowOk n r w b s mat mw ms) {m : Nat} (hm : m < 16) {P : Int32 → (Nat → Int32) → (Nat → Int32) → (Nat → Int32) → (Nat → Int32) → (Nat → Int32) → Prop}
    (hP : ∀ v f g h1 h2 far, Gd n r w b s (bfs n w s) → BInv n w s (bfs n w s) (bfs n w s).length → RowM (bfs n w s) v f g → (∀ e ∈ bfs n w s, ∃ v, far (codeN e.1) = nI v ∧ FvE n w m e.1 v) → P v f g h1 h2 far) : wp_X11_layFar (nI m) (nI n) was mat row now ms mw before far P := by
  have hN0 := hN
  obtain ⟨hg, hr, hat, hw, hms⟩ := hN
  have hn6 := hg.1
  unfold wp_X11_layFar
  refine goAll_spec hN0 (fun v1 f2 f3 f4 f5 hG hR => ?_)
  have hlen := hG.len
  have hB := bfs_spec hlen
  have hcl := hB.cl
  generalize bfs n w s = L at hG hR hlen hB hcl hP
  have hR0 := hR
  obtain ⟨rfl, hrow, -⟩ := hR
  have stg : ∀ {i : Nat} {e : Met1}, L[i]? = some e → StG n r b e.1 ∧ Kin w s e.1 := fun h => hG.2 _ (List.mem_of_getElem? h)
  have cl := fun {i : Nat} {e : Met1} (h : L[i]? = some e) => codeN_lt ((stg h).1.2.pz (stg h).1.1)
  refine kc3 L.length (fun j x f7 f8 => x = nI j ∧ ∀ i e, i < j → L[i]? = some e → ∃ v, f8 (codeN e.1) = nI v ∧ FvN n w m 0 e.1 v) ⟨rfl, fun i e h => absurd h (Nat.not_lt_zero i)⟩ ?_
  rintro j x f7 f8 K hj ⟨rfl, hf⟩ hK
  refine pk_le L.length j (fun c => ?_) (fun c => ⟨vp_in_nI (by omega) (by decide), ?_⟩)
  rotate_left
  · have hp0 : L[j]? = some L[j] := List.getElem?_eq_getElem c
    obtain ⟨hxg, hxk⟩ := stg hp0
    have hxz := hxg.2.pz hxg.1
    have hc := cl hp0
    rw [nI_clamp (by omega), hrow j _ hp0]
    refine lay_spec hxz (lay_ok hN0 hxg hxk) (fun f48 h48 => ⟨vp_in_nI (by omega) (by decide), areDone_spec hm hxz h48 (fun ht => b_yes ⟨vp_in_nI hc (by decide), fun g e x' ex => hK c ⟨by rw [ex, nI_1], fun i y hi hy => ?_⟩⟩) (fun ht => b_no ⟨vp_in_nI hc (by decide), fun g e x' ex => hK c ⟨by rw [ex, nI_1], fun i y hi hy => ?_⟩⟩)⟩)
    · rw [nI_clamp (by omega)] at e
      by_cases q : i = j
      · subst q
        rw [hp0] at hy; cases hy
        exact ⟨0, by rw [e, pk_us]; rfl, Or.inl ⟨Nat.le_refl 0, ht, fun _ _ => Nat.zero_le _⟩⟩
      · rw [e, pk_un (code_ne hG hy hp0 q)]
        exact hf i y (by omega) hy
    · rw [nI_clamp (by omega)] at e
      by_cases q : i = j
      · subst q
        rw [hp0] at hy; cases hy
        refine ⟨99999, by rw [e, pk_us]; rfl, Or.inr ⟨fun k hk => ?_, rfl⟩⟩
        have : k = 0 := by omega
        subst this
        exact ht
      · rw [e, pk_un (code_ne hG hy hp0 q)]
        exact hf i y (by omega) hy
  have e : j = L.length := by omega
  subst e
  have hA0 : FarA n w m 0 0 L f8 := fun i e he => by
    rw [if_neg (Nat.not_lt_zero i)]
    exact hf i e (List.getElem?_eq_some_iff.mp he).1 he
  clear hf hK
  refine kf5 200 (fun i x10 x11 _ _ f14 => ∃ t, i + t = 200 ∧ x11 = nI t ∧ FarA n w m t 0 L f14 ∧ ((x10 = 1 ∧ (t = 0 ∨ ∃ e ∈ L, Few n w m t e.1)) ∨ (x10 = 0 ∧ ∀ e ∈ L, ¬ Few n w m t e.1))) ⟨0, rfl, rfl, hA0, Or.inl ⟨rfl, Or.inl rfl⟩⟩ ?_
  rintro i x10 x11 f12 f13 f14 K ⟨t, hit, rfl, hA, hx⟩ hK
  rcases hx with ⟨rfl, hx⟩ | ⟨rfl, hx⟩
  rotate_left
  · refine b_no (hP _ _ _ _ _ _ hG hB hR0 (fun e he => ?_))
    obtain ⟨i, hi⟩ := List.getElem?_of_mem he
    obtain ⟨v, h1, h2⟩ := hA i e hi
    rw [if_neg (Nat.not_lt_zero i)] at h2
    refine ⟨v, h1, ?_⟩
    rcases h2 with ⟨a1, a2⟩ | ⟨a1, a2⟩
    · have := few_len hcl he a2
      exact Or.inl ⟨by omega, a2⟩
    · refine Or.inr ⟨fun k hk => ?_, a2⟩
      obtain ⟨j, -, hj⟩ := few_ex hk
      have hjt : t < j := by
        apply Nat.lt_of_not_le
        intro z
        exact a1 j z hj.1
      obtain ⟨x, hx1, hx2⟩ := few_down hcl (t := t) (j - t) e he (by rw [show t + (j - t) = j by omega]; exact hj)
      exact hx x hx1 hx2
  have ht : t ≤ 128 := by
    rcases hx with rfl | ⟨e, he, hf⟩
    · omega
    · have := few_len hcl he hf
      omega
  refine b_yes ?_
  refine kc5 L.length (fun j x16 x17 _ _ f20 => x17 = nI j ∧ FarA n w m t j L f20 ∧ ((x16 = 0 ∧ ∀ i e, i < j → L[i]? = some e → ¬ Few n w m (t + 1) e.1) ∨ (x16 = 1 ∧ ∃ e ∈ L, Few n w m (t + 1) e.1))) ⟨rfl, hA, Or.inl ⟨rfl, fun i e h => absurd h (Nat.not_lt_zero i)⟩⟩ ?_
  clear hA hx
  rintro j x16 x17 f18 f19 f20 K2 hj ⟨rfl, hA, hx⟩ hK2
  refine pk_le L.length j (fun c x22 e22 => ?_) (fun c => ?_)
  · have e : j = L.length := by omega
    subst e
    refine hK (i - 1) _ _ _ _ _ (by omega) ⟨t + 1, by omega, by rw [e22, nI_1], fun i e he => ?_, ?_⟩
    · obtain ⟨v, h1, h2⟩ := hA i e he
      rw [if_pos (List.getElem?_eq_some_iff.mp he).1] at h2
      rw [if_neg (Nat.not_lt_zero i)]
      exact ⟨v, h1, h2⟩
    · rcases hx with ⟨rfl, hx⟩ | ⟨rfl, hx⟩
      · refine Or.inr ⟨rfl, fun e he => ?_⟩
        obtain ⟨i, hi⟩ := List.getElem?_of_mem he
        exact hx i e (List.getElem?_eq_some_iff.mp hi).1 hi
      · exact Or.inl ⟨rfl, Or.inr hx⟩
  · have hp0 : L[j]? = some L[j] := List.getElem?_eq_getElem c
    obtain ⟨hxg, hxk⟩ := stg hp0
    have hxz := hxg.2.pz hxg.1
    have hc := cl hp0
    obtain ⟨v, hv1, hv2⟩ := hA j _ hp0
    rw [if_neg (Nat.lt_irrefl j)] at hv2
    have hv9 := fv_le (by omega) hv2
    refine ⟨vp_in_nI (by omega) (by decide), ?_⟩
    rw [nI_clamp (show j < 2 ^ 31 by omega), hrow j _ hp0]
    refine ⟨vp_in_nI hc (by decide), ?_⟩
    rw [nI_clamp (show codeN L[j].1 < 2 ^ 31 by omega), hv1]
    have stay : FvN n w m (t + 1) L[j].1 v → ¬ Few n w m (t + 1) L[j].1 → ∀ (x' : Int32) g1 g2, x' = nI j + 1 → K2 x16 x' g1 g2 f20 := by
      intro hs1 hs2 x' g1 g2 ex
      refine hK2 c ⟨by rw [ex, nI_1], fun i e he => ?_, ?_⟩
      · by_cases q : i = j
        · subst q
          rw [hp0] at he; cases he
          rw [if_pos (Nat.lt_succ_self i)]
          exact ⟨v, hv1, hs1⟩
        · obtain ⟨v', a1, a2⟩ := hA i e he
          refine ⟨v', a1, ?_⟩
          by_cases q2 : i < j
          · rw [if_pos q2] at a2; rw [if_pos (by omega)]; exact a2
          · rw [if_neg q2] at a2; rw [if_neg (by omega)]; exact a2
      · rcases hx with ⟨rfl, hx⟩ | ⟨rfl, hx⟩
        · refine Or.inl ⟨rfl, fun i e hi he => ?_⟩
          by_cases q : i = j
          · subst q
            rw [hp0] at he; cases he
            exact hs2
          · exact hx i e (by omega) he
        · exact Or.inr ⟨rfl, hx⟩
    refine pk_ne v 99999 (fun c9 => ⟨vp_in_nI (by omega) (by decide), ?_⟩) (fun c9 x' ex => ?_)
    rotate_left
    · refine stay (fv_up hv2 c9) (fun hf => ?_) x' _ _ ex
      have := fv_few hv2 c9
      have := few_one this.2 hf
      omega
    have hno : ∀ k, k ≤ t → ¬ rch n w m k L[j].1 := by
      rcases hv2 with ⟨a1, -⟩ | ⟨a1, -⟩
      · omega
      · exact a1
    refine lay_spec hxz (lay_ok hN0 hxg hxk) (fun f28 h28 => ?_)
    -- the values of the states behind
    have val : ∀ f q, mv n w L[j].1 f q → ∃ v', f20 (codeN (chg L[j].1 f q.1 q.2)) = nI v' ∧ v' ≤ 99999 ∧ (v' ≤ t → v' = t ∧ Few n w m t (chg L[j].1 f q.1 q.2)) ∧ (rch n w m t (chg L[j].1 f q.1 q.2) → v' = t) := by
      intro f q hmv
      obtain ⟨y, hy, ey⟩ := hcl _ (List.mem_of_getElem? hp0) f q hmv
      obtain ⟨i, hi⟩ := List.getElem?_of_mem hy
      obtain ⟨v', a1, a2⟩ := hA i y hi
      rw [ey] at a1 a2
      have low : ∀ k, rch n w m k (chg L[j].1 f q.1 q.2) → t ≤ k := by
        intro k hk
        apply Nat.le_of_not_lt
        intro z
        exact hno (k + 1) (by omega) ⟨f, q, hmv, hk⟩
      refine ⟨v', a1, ?_, fun hvt => ?_, fun hrt => ?_⟩
      · split at a2 <;> exact fv_le (by omega) a2
      · have hf : Few n w m v' (chg L[j].1 f q.1 q.2) := by
          rcases a2 with a2 | a2
          · exact a2.2
          · omega
        have := low v' hf.1
        have e : v' = t := by omega
        rw [e] at hf
        exact ⟨e, hf⟩
      · have hf : Few n w m t (chg L[j].1 f q.1 q.2) := ⟨hrt, low⟩
        rcases a2 with ⟨-, a2⟩ | ⟨a2, -⟩
        · exact few_one a2 hf
        · exact absurd hrt (a2 t (by split <;> omega))
    obtain ⟨φ, hφ⟩ : ∃ φ : Nat → Nat × Nat → Nat, ∀ f q, mv n w L[j].1 f q → f20 (codeN (chg L[j].1 f q.1 q.2)) = nI (φ f q) ∧ φ f q ≤ 99999 ∧ (φ f q ≤ t → φ f q = t ∧ Few n w m t (chg L[j].1 f q.1 q.2)) ∧ (rch n w m t (chg L[j].1 f q.1 q.2) → φ f q = t) := by
      refine ⟨fun f q => (f20 (codeN (chg L[j].1 f q.1 q.2))).toNatClampNeg, fun f q hmv => ?_⟩
      obtain ⟨v', a1, a2, a3, a4⟩ := val f q hmv
      have e : (f20 (codeN (chg L[j].1 f q.1 q.2))).toNatClampNeg = v' := by rw [a1]; exact nI_clamp (by omega)
      simp only [e]
      exact ⟨a1, a2, a3, a4⟩
    refine kc3 n (fun g x29 x30 _ => x30 = nI g ∧ ∃ u, x29 = nI u ∧ u ≤ 99999 ∧ (∀ f, f < g → ∀ q ∈ pairs (outM w L[j].1 f) (inM L[j].1 f), u ≤ φ f q) ∧ (u = 99999 ∨ ∃ f q, mv n w L[j].1 f q ∧ u = φ f q)) ⟨rfl, 99999, rfl, Nat.le_refl _, fun f hf => absurd hf (Nat.not_lt_zero f), Or.inl rfl⟩ ?_
    rintro g x29 x30 f31 K3 hgn ⟨rfl, u, rfl, hu9, hu1, hu2⟩ hK3
    refine pk_le n g (fun c3 => ?_) (fun c3 => mayOf_spec hxg hr (by omega) h28 hw ?_)
    · have eg : g = n := by omega
      subst eg
      refine pk_ne u t (fun cu => ⟨vp_in_nI (by omega) (by decide), ?_⟩) (fun cu x34 e34 => ?_)
      · have hfew : Few g w m (t + 1) L[j].1 := by
          rcases hu2 with h | ⟨f, q, hmv, h⟩
          · omega
          · exact few_step hmv ((hφ f q hmv).2.2.1 (by omega)).2 hno
        rintro x36 rfl
        refine ⟨vp_in_nI hc (by decide), fun f38 e38 x39 e39 => hK2 c ⟨by rw [e39, nI_1], fun i e he => ?_, Or.inr ⟨rfl, L[j], List.mem_of_getElem? hp0, hfew⟩⟩⟩
        rw [nI_1] at e38
        by_cases q : i = j
        · subst q
          rw [hp0] at he; cases he
          rw [if_pos (Nat.lt_succ_self i)]
          exact ⟨t + 1, by rw [e38, pk_us], Or.inl ⟨Nat.le_refl _, hfew⟩⟩
        · obtain ⟨v', a1, a2⟩ := hA i e he
          refine ⟨v', by rw [e38, pk_un (code_ne hG he hp0 q)]; exact a1, ?_⟩
          by_cases q2 : i < j
          · rw [if_pos q2] at a2; rw [if_pos (by omega)]; exact a2
          · rw [if_neg q2] at a2; rw [if_neg (by omega)]; exact a2
      · have nr : ¬ rch g w m (t + 1) L[j].1 := by
          rintro ⟨f, q, hmv, hrt⟩
          have e1 := (hφ f q hmv).2.2.2 hrt
          have e2 := hu1 f hmv.1 q hmv.2
          rcases hu2 with h | ⟨f', q', hmv', h⟩
          · omega
          · have := ((hφ f' q' hmv').2.2.1 (by omega)).1
            omega
        refine stay (Or.inr ⟨fun k hk => ?_, c9⟩) (fun hf => nr hf.1) x34 _ _ e34
        by_cases q : k = t + 1
        · subst q; exact nr
        · exact hno k (by omega)
    · rw [if_neg (by decide)]
      refine mayOf_spec hxg hr (by omega) h28 hw ?_
      rw [if_pos rfl]
      obtain ⟨m1, m2, m3⟩ := minL_spec (φ g) (pairs (outM w L[j].1 g) (inM L[j].1 g)) 99999
      refine least_spec hxg c3 h28 (φ := φ g) (fun q hq => ⟨(hφ g q hq).1, (hφ g q hq).2.1⟩) (fun g' => pk_le u (minL (φ g) (pairs (outM w L[j].1 g) (inM L[j].1 g)) 99999) (fun c4 x45 e45 => hK3 c3 ⟨by rw [e45, nI_1], u, rfl, hu9, fun f hf q hq => ?_, hu2⟩) (fun c4 x46 e46 => hK3 c3 ⟨by rw [e46, nI_1], _, rfl, m1, fun f hf q hq => ?_, ?_⟩) rfl rfl (by omega) (by omega))
      · by_cases z : f = g
        · subst z
          have := m2 q hq
          omega
        · exact hu1 f (by omega) q hq
      · by_cases z : f = g
        · subst z
          exact m2 q hq
        · have := hu1 f (by omega) q hq
          omega
      · rcases m3 with h | ⟨q, hq, h⟩
        · exact Or.inl h
        · exact Or.inr ⟨g, q, ⟨c3, hq⟩, h⟩
theorem fewestOf_spec {s : List Nat} {mat mw ms was row now before far : Nat → Int32} (hN : NowOk n r w b s mat mw ms) {m : Nat} (hm : m < 16) {P : Int32 → Int32 → (Nat → Int32) → (Nat → Int32) → (Nat → Int32) → (Nat → Int32) → (Nat → Int32) → Prop}
    (hP : ∀ v0 v f g h1 h2 far, FvE n w m s v0 → Gd n r w b s (bfs n w s) → BInv n w s (bfs n w s) (bfs n w s).length → RowM (bfs n w s) v f g → (∀ e ∈ bfs n w s, ∃ v, far (codeN e.1) = nI v ∧ FvE n w m e.1 v) → P (nI v0) v f g h1 h2 far) : wp_X11_fewestOf (nI m) (nI n) was mat row now ms mw before far P := by
  unfold wp_X11_fewestOf
  refine layFar_spec hN hm (fun v f g h1 h2 far hG hB hR hF => ?_)
  have hz := hN.1.2.pz hN.1.1
  refine code_spec hz hN.2.2.1 ?_
  have hc := codeN_lt hz
  obtain ⟨v0, e1, e2⟩ := hF _ (List.mem_of_getElem? hB.1)
  rw [nI_clamp (by omega), e1]
  exact ⟨vp_in_nI hc (by decide), hP v0 v f g h1 h2 far e2 hG hB hR hF⟩
end LAYFAR
