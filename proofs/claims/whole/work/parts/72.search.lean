/-! PURE ROWS: the class's search -/
def stopP (p : Nat) (L : List Met1) : Bool := L.any fun e => bits4 (fun k => pz e.1 k == 7) &&& p == p
def Gd (n r : Nat) (w b : Nat → Nat) (s0 : List Nat) (L : List Met1) : Prop := dif L ∧ ∀ e ∈ L, StG n r b e.1 ∧ Kin w s0 e.1
theorem Gd.len {n r : Nat} {w b : Nat → Nat} {s0 : List Nat} {L : List Met1} (h : Gd n r w b s0 L) : L.length ≤ 128 := bound128 h.1 h.2
theorem Gd.nil {n r : Nat} {w b : Nat → Nat} {s0 : List Nat} : Gd n r w b s0 [] := ⟨List.Pairwise.nil, fun _ h => absurd h List.not_mem_nil⟩
theorem Gd.meet {n r : Nat} {w b : Nat → Nat} {s0 : List Nat} {L : List Met1} (h : Gd n r w b s0 L) {e : Met1} (h1 : StG n r b e.1) (h2 : Kin w s0 e.1) : Gd n r w b s0 (meetA L e) := by
  by_cases c : ∃ x ∈ L, x.1 = e.1
  · rw [meetA_old c]; exact h
  · rw [meetA_new c]
    refine ⟨?_, fun x hx => ?_⟩
    · unfold dif
      rw [List.pairwise_append]
      refine ⟨h.1, List.pairwise_singleton _ _, fun a ha b hb => ?_⟩
      rw [List.mem_singleton.mp hb]
      exact fun q => c ⟨a, ha, q⟩
    · rcases List.mem_append.mp hx with q | q
      · exact h.2 x q
      · rw [List.mem_singleton.mp q]; exact ⟨h1, h2⟩
theorem meetA_pre (L : List Met1) (e : Met1) : ∃ N, meetA L e = L ++ N := by
  by_cases c : ∃ x ∈ L, x.1 = e.1
  · exact ⟨[], by rw [meetA_old c, List.append_nil]⟩
  · exact ⟨[e], meetA_new c⟩
theorem fm_pre : ∀ (es L : List Met1), ∃ N, fm L es = L ++ N
  | [], L => ⟨[], by rw [List.append_nil]; rfl⟩
  | e :: es, L => by
    obtain ⟨N, h⟩ := meetA_pre L e
    obtain ⟨N2, h2⟩ := fm_pre es (meetA L e)
    exact ⟨N ++ N2, by show fm (meetA L e) es = _; rw [h2, h, List.append_assoc]⟩
theorem pre_at {L N : List Met1} {i : Nat} {p : Met1} (h : L[i]? = some p) : (L ++ N)[i]? = some p := by
  rw [List.getElem?_append_left (List.getElem?_eq_some_iff.mp h).1]; exact h
theorem encS_inj {n r : Nat} {b : Nat → Nat} {s s' : List Nat} (h : StG n r b s) (h' : StG n r b s') (e : encS s = encS s') : s = s' := by
  have hz := h.2.pz h.1
  have hz' := h'.2.pz h'.1
  obtain ⟨a1, a2, a3, a4⟩ := encS_parts hz
  obtain ⟨b1, b2, b3, b4⟩ := encS_parts hz'
  rw [encS_E, encS_E] at e
  unfold E4 at e
  have e6 : bits4 (fun k => pz s k == 6) = bits4 (fun k => pz s' k == 6) := by omega
  have e7 : bits4 (fun k => pz s k == 7) = bits4 (fun k => pz s' k == 7) := by omega
  have p4 : plc (pz s 4) = plc (pz s' 4) := by omega
  have p5 : plc (pz s 5) = plc (pz s' 5) := by omega
  have inj : ∀ x, x < 9 → x ≠ 7 → ∀ y, y < 9 → y ≠ 7 → plc x = plc y → x = y := by decide +kernel
  refine ext6 h.2.1 h'.2.1 (fun k hk => ?_)
  by_cases c : k < 4
  · have t6 : (pz s k == 6) = (pz s' k == 6) := by
      have := congrArg (fun m => m.testBit k) e6
      simpa [bits4_tb, c] using this
    have t7 : (pz s k == 7) = (pz s' k == 7) := by
      have := congrArg (fun m => m.testBit k) e7
      simpa [bits4_tb, c] using this
    have i6 : pz s k = 6 ↔ pz s' k = 6 := by
      rw [← beq_iff_eq, t6, beq_iff_eq]
    have i7 : pz s k = 7 ↔ pz s' k = 7 := by
      rw [← beq_iff_eq, t7, beq_iff_eq]
    by_cases hr : k < r
    · rcases h.2.2.1 k c hr with ⟨q, q2⟩ | q | q
      · rcases h'.2.2.1 k c hr with ⟨p, p2⟩ | p | p
        · rw [q, p]
        · have := i6.mpr p; rw [this, p]
        · have := i7.mpr p; rw [this, p]
      · rw [q, i6.mp q]
      · rw [q, i7.mp q]
    · rw [h.2.2.2.1 k c (by omega), h'.2.2.2.1 k c (by omega)]
  · rcases (show k = 4 ∨ k = 5 by omega) with rfl | rfl
    · exact inj _ (hz.2 4 hk).1 ((hz.2 4 hk).2 (by omega)) _ (hz'.2 4 hk).1 ((hz'.2 4 hk).2 (by omega)) p4
    · exact inj _ (hz.2 5 hk).1 ((hz.2 5 hk).2 (by omega)) _ (hz'.2 5 hk).1 ((hz'.2 5 hk).2 (by omega)) p5
section SEARCH
variable {n r : Nat} {w b : Nat → Nat} {s0 : List Nat} {L : List Met1} {sz : Int32} {st cf hl : Nat → Int32}
theorem index_spec (hG : Gd n r w b s0 L) (hs : SearchL L sz st cf hl) {s' : List Nat} (hs' : StG n r b s') {P : Int32 → Prop} (h1 : ∀ i e, L[i]? = some e → e.1 = s' → P (nI i)) (h0 : (∀ e ∈ L, e.1 ≠ s') → P (-9)) : wp_X6_indexOf (nI (encS s')) sz st P := by
  have hl := hG.len
  obtain ⟨rfl, hst⟩ := hs
  unfold wp_X6_indexOf
  refine kc1 L.length (fun j x => x = nI j ∧ ∀ i e, i < j → L[i]? = some e → e.1 ≠ s') ⟨rfl, fun i e h => absurd h (Nat.not_lt_zero i)⟩ ?_
  rintro j x K hj ⟨rfl, hno⟩ hK
  refine pk_le L.length j (fun c => h0 (fun e he => ?_)) (fun c => pk_le 128 j (fun c2 => by omega) (fun c2 => ⟨vp_in_nI c2 (by decide), ?_⟩))
  · obtain ⟨i, hi⟩ := List.getElem?_of_mem he
    exact hno i e (by have := (List.getElem?_eq_some_iff.mp hi).1; omega) hi
  · have hp : L[j]? = some L[j] := List.getElem?_eq_getElem c
    have hm := hG.2 _ (List.mem_of_getElem? hp)
    rw [nI_clamp (by omega), (hst j _ hp).1]
    have l1 := encS_lt (hm.1.2.pz hm.1.1)
    have l2 := encS_lt (hs'.2.pz hs'.1)
    refine pk_ne _ _ (fun c3 => h1 j _ hp (encS_inj hm.1 hs' c3)) (fun c3 x6 e6 => hK c ⟨by rw [e6, nI_1], fun i e hi he => ?_⟩) rfl rfl (by omega) (by omega)
    by_cases q : i = j
    · subst q
      rw [hp] at he
      cases he
      exact fun z => c3 (by rw [z])
    · exact hno i e (by omega) he
theorem done_and {s : List Nat} {p : Nat} (hp : p < 32) : (nI (bits4 fun k => pz s k == 7) &&& nI p = nI p) ↔ (bits4 (fun k => pz s k == 7) &&& p = p) := by
  have := bits4_lt (fun k => pz s k == 7)
  rw [fa_and]
  exact nI_eq (Nat.lt_of_le_of_lt Nat.and_le_right (by omega)) (by omega)
theorem meet_spec (hG : Gd n r w b s0 L) (hs : SearchL L sz st cf hl) {e : Met1} (he : StG n r b e.1) (hk : Kin w s0 e.1) {p : Nat} (hp : p < 32) {p1 p2 fl : Int32} (h12 : L ≠ [] → p1 = nI e.2.1 ∧ p2 = nI (hkey e)) (hfl : fl = if stopP p L then 1 else 0) {P : Int32 → Int32 → (Nat → Int32) → (Nat → Int32) → (Nat → Int32) → Prop}
    (hP : ∀ sz2 st2 cf2 hl2, SearchL (meetA L e) sz2 st2 cf2 hl2 → P sz2 (if stopP p (meetA L e) then 1 else 0) st2 cf2 hl2) : wp_X6_meet (nI (encS e.1)) p1 p2 (nI p) sz fl st cf hl P := by
  have hlen := hG.len
  have hG2 := hG.meet he hk
  have hlen2 := hG2.len
  have hs0 := hs
  obtain ⟨rfl, hst⟩ := hs
  have old : (∃ x ∈ L, x.1 = e.1) → P (nI L.length) fl st cf hl := by
    intro c
    have := hP (nI L.length) st cf hl
    rw [meetA_old c, ← hfl] at this
    exact this hs0
  unfold wp_X6_meet
  by_cases c : ∃ x ∈ L, x.1 = e.1
  · refine pk_le 128 L.length (fun _ => old c) (fun _ => index_spec hG hs0 he (fun i x hi _ => ⟨fun z => absurd z (nI_n9 i ?_), fun _ => old c⟩) (fun hno => ?_))
    · have := (List.getElem?_eq_some_iff.mp hi).1; omega
    · obtain ⟨x, hx, hxe⟩ := c
      exact absurd hxe (hno x hx)
  · rw [meetA_new c] at hP hlen2
    rw [List.length_append, List.length_singleton] at hlen2
    refine pk_le 128 L.length (fun _ => by omega) (fun c1 => index_spec hG hs0 he (fun i x hi hx => absurd ⟨x, List.mem_of_getElem? hi, hx⟩ c) (fun hno => ⟨fun _ => ?_, fun z => absurd rfl z⟩))
    refine put_in c1 (by decide) (put_in c1 (by decide) (put_in c1 (by decide) (fun x7 e7 => ?_)))
    have e7 : x7 = nI (L ++ [e]).length := by rw [e7, nI_1, List.length_append]; rfl
    subst e7
    have hS : SearchL (L ++ [e]) (nI (L ++ [e]).length) (upd st L.length (nI (encS e.1))) (upd cf L.length p1) (upd hl L.length p2) := by
      refine ⟨rfl, fun i x hi => ?_⟩
      by_cases q : i < L.length
      · rw [List.getElem?_append_left q] at hi
        rw [pk_un (by omega), pk_un (by omega), pk_un (by omega)]
        exact hst i x hi
      · have ei : i = L.length := by
          have := (List.getElem?_eq_some_iff.mp hi).1
          rw [List.length_append, List.length_singleton] at this
          omega
        subst ei
        rw [List.getElem?_append_right (Nat.le_refl _), Nat.sub_self] at hi
        cases hi
        rw [pk_us, pk_us, pk_us]
        refine ⟨rfl, fun h0 => h12 (fun z => ?_)⟩
        rw [z] at h0
        exact absurd h0 (Nat.not_lt_zero _)
    have hst : stopP p (L ++ [e]) = (stopP p L || (bits4 (fun k => pz e.1 k == 7) &&& p == p)) := by
      unfold stopP
      rw [List.any_append, List.any_cons, List.any_nil, Bool.or_false]
    have := hP _ _ _ _ hS
    rw [hst] at this
    cases cs : stopP p L with
    | true =>
      rw [cs] at hfl this
      subst hfl
      exact b_yes' this
    | false =>
      rw [cs] at hfl this
      subst hfl
      refine b_no' (done_enc (he.2.pz he.1) ⟨fun z => ?_, fun z => ?_⟩)
      · rw [done_and hp] at z
        rw [show (bits4 (fun k => pz e.1 k == 7) &&& p == p) = false by simpa using z] at this
        exact this
      · rw [done_and hp] at z
        rw [show (bits4 (fun k => pz e.1 k == 7) &&& p == p) = true by simpa using z] at this
        exact this
theorem mkE_ok {s : List Nat} {i f : Nat} {q : Nat × Nat} (hg : StG n r b s) (hk : Kin w s0 s) (hm : mv n w s f q) : StG n r b (mkE s i f q).1 ∧ Kin w s0 (mkE s i f q).1 := ⟨mv_ok hg hm, hk.mv hg hm⟩
theorem pairs_mv {s : List Nat} {f : Nat} (hf : f < n) : ∀ q ∈ pairs (outM w s f) (inM s f), mv n w s f q := fun _ hq => ⟨hf, hq⟩
theorem spread_spec (hG : Gd n r w b s0 L) (hs : SearchL L sz st cf hl) (hr : r ≤ 4) {wa sa : Nat → Int32} (hwa : ∀ f, f < 6 → wa f = nI (bits4 fun k => decide (k < r) && w k == f)) (hsa : ∀ f, f < 6 → sa f = nI (bits4 fun k => decide (k < r) && b k == f)) {i f p : Nat} {x : Met1} (hi : L[i]? = some x) (hf : f < n) (hp : p < 32) {fl : Int32} (hfl : fl = if stopP p L then 1 else 0)
    {P : Int32 → Int32 → (Nat → Int32) → Int32 → Int32 → Int32 → Int32 → (Nat → Int32) → (Nat → Int32) → Prop}
    (hP : ∀ sz2 st2 cf2 hl2 v4 v5 v6 v7, Gd n r w b s0 (spreadF w i x.1 L f) → SearchL (spreadF w i x.1 L f) sz2 st2 cf2 hl2 → P sz2 (if stopP p (spreadF w i x.1 L f) then 1 else 0) st2 v4 v5 v6 v7 cf2 hl2) : wp_X6_spread (nI i) (nI f) (nI p) sz fl st wa sa cf hl P := by
  have hlen := hG.len
  have hil := (List.getElem?_eq_some_iff.mp hi).1
  obtain ⟨hxg, hxk⟩ := hG.2 x (List.mem_of_getElem? hi)
  have hn6 := hxg.1
  have h1 := outM_lt w x.1 f
  have h2 := inM_lt x.1 f
  have hd := out_in_dis w x.1 (f := f) (by omega)
  obtain ⟨hc, hl20⟩ := pairs_chain h1 h2 hd
  unfold wp_X6_spread
  refine at_in (by omega) (by decide) ?_
  rw [(hs.2 i x hi).1]
  refine mayLeave_enc (t := 0) (b := b) hxg hr (by omega) (hwa f (by omega)) (mayEnter_enc (t := 0) (w := w) hxg hr hf (hsa f (by omega)) (begin_spec h1 h2 ?_))
  rw [spreadF_fm] at hP
  refine kr8 (pairs (outM w x.1 f) (inM x.1 f)) (fun l x8 v9 v10 f11 v12 v13 f14 f15 => ∃ o e Lc, v12 = nI o ∧ v13 = nI e ∧ RpC (outM w x.1 f) (inM x.1 f) o e l ∧ l.length ≤ (pairs (outM w x.1 f) (inM x.1 f)).length ∧ x8 = nI ((pairs (outM w x.1 f) (inM x.1 f)).length - l.length) ∧ (∀ q ∈ l, mv n w x.1 f q) ∧ Gd n r w b s0 Lc ∧ SearchL Lc v9 f11 f14 f15 ∧ v10 = (if stopP p Lc then 1 else 0) ∧ Lc ≠ [] ∧ fm Lc (l.map (mkE x.1 i f)) = fm L ((pairs (outM w x.1 f) (inM x.1 f)).map (mkE x.1 i f))) ⟨_, _, L, rfl, rfl, hc, Nat.le_refl _, by rw [Nat.sub_self]; rfl, pairs_mv hf, hG, hs, hfl, fun z => by rw [z] at hil; exact absurd hil (Nat.not_lt_zero _), rfl⟩ ?_ ?_
  · rintro x8 v9 v10 f11 v12 v13 f14 f15 K ⟨o, e, Lc, rfl, rfl, hc, -, rfl, -, hGc, hsc, rfl, -, hfm⟩
    have hfm : Lc = _ := hfm
    subst hfm
    refine pk_le 64 _ (fun c => ?_) (fun c => next_nil h1 h2 hc (fun o e => b_no (hP _ _ _ _ _ _ _ _ hGc hsc))) rfl rfl (by omega) (by omega)
    simp at c
    omega
  · rintro q l x8 v9 v10 f11 v12 v13 f14 f15 K ⟨o, e, Lc, rfl, rfl, hc, hle, rfl, hmv, hGc, hsc, rfl, hne, hfm⟩ hK
    rw [List.length_cons] at hle ⊢
    have hm := hmv q List.mem_cons_self
    obtain ⟨q1, q2, -⟩ := mv_bits hm
    obtain ⟨g1, g2⟩ := mkE_ok (i := i) hxg hxk hm
    refine pk_le 64 _ (fun c => by omega) (fun c => next_cons h1 h2 hc (b_yes (after_enc (hxg.2.pz hn6) (by omega) q1 q2 (fun k _ hk => hx_of hn6 hm k hk) (of_spec (by omega) q1 q2 (meet_spec (e := mkE x.1 i f q) hGc hsc g1 g2 hp (fun _ => ⟨rfl, rfl⟩) rfl (fun sz2 st2 cf2 hl2 hs2 x28 e28 => hK ⟨_, _, meetA Lc (mkE x.1 i f q), rfl, rfl, hc.2.2.2, by omega, ?_, fun q' h' => hmv q' (List.mem_cons_of_mem _ h'), hGc.meet g1 g2, hs2, rfl, ?_, hfm⟩)))))) rfl rfl (by omega) (by omega)
    · rw [e28, nI_1]
      congr 1
      omega
    · obtain ⟨N, hN⟩ := meetA_pre Lc (mkE x.1 i f q)
      rw [hN]
      intro z
      exact hne (List.append_eq_nil_iff.mp z).1
/-- the row that the class's search lays: it ends when a state with all of p done was met -/
def bfsX (p n : Nat) (w : Nat → Nat) : Nat → Nat → List Met1 → List Met1
  | 0, _, L => L
  | k + 1, i, L => if i < L.length ∧ stopP p L = false then bfsX p n w k (i + 1) (spreadA n w L i) else L
theorem bfsX_succ (p n : Nat) (w : Nat → Nat) (k i : Nat) (L : List Met1) : bfsX p n w (k + 1) i L = if i < L.length ∧ stopP p L = false then bfsX p n w k (i + 1) (spreadA n w L i) else L := rfl
theorem spreadF_pre (w : Nat → Nat) (i : Nat) (s : List Nat) (L : List Met1) (f : Nat) : ∃ N, spreadF w i s L f = L ++ N := by
  rw [spreadF_fm]; exact fm_pre _ _
theorem explore_spec {s : List Nat} (hg : StG n r b s) (hr : r ≤ 4) {wa sa : Nat → Int32} (hwa : ∀ f, f < 6 → wa f = nI (bits4 fun k => decide (k < r) && w k == f)) (hsa : ∀ f, f < 6 → sa f = nI (bits4 fun k => decide (k < r) && b k == f)) {p : Nat} (hp : p < 32) {v1 v2 v3 v4 : Int32}
    {P : Int32 → Int32 → (Nat → Int32) → (Nat → Int32) → (Nat → Int32) → Int32 → Int32 → Int32 → Int32 → Prop}
    (hP : ∀ sz2 fl2 st2 cf2 hl2 v4 v5 v6 v7, Gd n r w b s (bfsX p n w 128 0 [(s, 0, 0, 0, 0)]) → SearchL (bfsX p n w 128 0 [(s, 0, 0, 0, 0)]) sz2 st2 cf2 hl2 → P sz2 fl2 st2 cf2 hl2 v4 v5 v6 v7) : wp_X6_explore (nI (encS s)) (nI p) st cf hl (nI n) wa sa v1 v2 v3 v4 P := by
  have hn6 := hg.1
  have hS0 : SearchL [] 0 st cf hl := ⟨rfl, fun i e h => by simp at h⟩
  unfold wp_X6_explore
  refine meet_spec (e := (s, 0, 0, 0, 0)) (Gd.nil (w := w) (s0 := s)) hS0 hg (Kin.rf w s) hp (fun z => absurd rfl z) rfl (fun sz st cf hl hs => ?_)
  have hG0 := (Gd.nil (n := n) (r := r) (w := w) (b := b) (s0 := s)).meet (e := (s, 0, 0, 0, 0)) hg (Kin.rf w s)
  have e0 : meetA [] (s, 0, 0, 0, 0) = [(s, 0, 0, 0, 0)] := meetA_new (fun ⟨x, hx, _⟩ => absurd hx List.not_mem_nil)
  rw [e0] at hs hG0 ⊢
  refine kc10 128 (fun j x6 v7 v8 f9 f10 f11 _ _ _ _ => ∃ L, x6 = nI j ∧ Gd n r w b s L ∧ SearchL L v7 f9 f10 f11 ∧ v8 = (if stopP p L then 1 else 0) ∧ bfsX p n w (128 - j) j L = bfsX p n w 128 0 [(s, 0, 0, 0, 0)]) ⟨[(s, 0, 0, 0, 0)], rfl, hG0, hs, rfl, rfl⟩ ?_
  rintro j x6 v7 v8 f9 f10 f11 v12 v13 v14 v15 K hj ⟨L, rfl, hG, hs, rfl, hb⟩ hK
  have hlen := hG.len
  have fin : bfsX p n w (128 - j) j L = L → P v7 (if stopP p L then 1 else 0) f9 f10 f11 v12 v13 v14 v15 := by
    intro e
    rw [← hb, e] at hP
    exact hP _ _ _ _ _ _ _ _ _ hG hs
  refine pk_le 128 j (fun c => fin ?_) (fun c => ?_)
  · rw [show 128 - j = 0 by omega]; rfl
  have es : 128 - j = (128 - (j + 1)) + 1 := by omega
  rw [es, bfsX_succ p n w (128 - (j + 1)) j L] at fin hb
  rw [hs.1]
  refine pk_le L.length j (fun c2 => ?_) (fun c2 => ?_)
  · rw [← hs.1]
    exact fin (if_neg (fun z => by omega))
  · rw [← hs.1]
    cases cs : stopP p L with
    | true =>
      rw [cs] at fin
      exact b_yes' (fin (if_neg (fun z => absurd z.2 (by decide))))
    | false =>
      rw [if_pos ⟨c2, cs⟩] at hb
      refine b_no' ?_
      have hp0 : L[j]? = some L[j] := List.getElem?_eq_getElem c2
      have hgd : (L.getD j ([], 0, 0, 0, 0)).1 = L[j].1 := by rw [List.getD_eq_getElem?_getD, hp0]; rfl
      refine kc10 n (fun g x19 v20 v21 f22 f23 f24 _ _ _ _ => ∃ Lc, x19 = nI g ∧ Gd n r w b s Lc ∧ SearchL Lc v20 f22 f23 f24 ∧ v21 = (if stopP p Lc then 1 else 0) ∧ Lc[j]? = some L[j] ∧ (List.range g).foldl (spreadF w j L[j].1) L = Lc) ⟨L, rfl, hG, hs, by simp [cs], hp0, rfl⟩ ?_
      rintro g x19 v20 v21 f22 f23 f24 v25 v26 v27 v28 K2 hgn ⟨Lc, rfl, hGc, hsc, rfl, hjc, hfc⟩ hK2
      refine pk_le n g (fun c3 x30 e30 => ?_) (fun c3 => spread_spec hGc hsc hr hwa hsa hjc c3 hp rfl (fun sz2 st2 cf2 hl2 v4 v5 v6 v7 hG2 hs2 x40 e40 => hK2 c3 ⟨_, by rw [e40, nI_1], hG2, hs2, rfl, ?_, ?_⟩))
      · have eg : g = n := by omega
        subst eg
        refine hK c ⟨Lc, by rw [e30, nI_1], hGc, hsc, rfl, ?_⟩
        rw [← hb]
        unfold spreadA
        rw [hgd, hfc]
      · obtain ⟨N, hN⟩ := spreadF_pre w j L[j].1 Lc g
        rw [hN]; exact pre_at hjc
      · rw [List.range_succ, List.foldl_append, hfc]; rfl
theorem bfsX_pre (p : Nat) (w : Nat → Nat) : ∀ (k i : Nat) (L : List Met1), ∃ N, bfsA n w k i L = bfsX p n w k i L ++ N ∧ (N = [] ∨ stopP p (bfsX p n w k i L) = true)
  | 0, i, L => ⟨[], by rw [List.append_nil]; rfl, Or.inl rfl⟩
  | k + 1, i, L => by
    unfold bfsA bfsX
    by_cases c : i < L.length
    · by_cases cs : stopP p L = false
      · rw [if_pos c, if_pos ⟨c, cs⟩]
        exact bfsX_pre p w k (i + 1) _
      · rw [if_pos c, if_neg (fun z => cs z.2)]
        have pre : ∀ (k i : Nat) (L : List Met1), ∃ N, bfsA n w k i L = L ++ N := by
          intro k
          induction k with
          | zero => intro i L; exact ⟨[], by rw [List.append_nil]; rfl⟩
          | succ k ih =>
            intro i L
            unfold bfsA
            by_cases c : i < L.length
            · rw [if_pos c]
              obtain ⟨N, hN⟩ := ih (i + 1) (spreadA n w L i)
              rw [spreadA_fm] at hN
              obtain ⟨N2, hN2⟩ := fm_pre (allE n w i (L.getD i ([], 0, 0, 0, 0)).1) L
              rw [spreadA_fm]
              exact ⟨N2 ++ N, by rw [hN, hN2, List.append_assoc]⟩
            · rw [if_neg c]; exact ⟨[], by rw [List.append_nil]⟩
        obtain ⟨N1, h1⟩ := pre k (i + 1) (spreadA n w L i)
        obtain ⟨N2, h2⟩ := fm_pre (allE n w i (L.getD i ([], 0, 0, 0, 0)).1) L
        refine ⟨N2 ++ N1, ?_, Or.inr (by simpa using cs)⟩
        rw [h1, spreadA_fm, h2, List.append_assoc]
    · rw [if_neg c, if_neg (fun z => c z.1)]
      exact ⟨[], by rw [List.append_nil], Or.inl rfl⟩
theorem stop16 (L : List Met1) : stopP 16 L = false := by
  unfold stopP
  rw [List.any_eq_false]
  intro e _
  have h := bits4_lt (fun k => pz e.1 k == 7)
  have : ∀ d, d < 16 → ¬ (d &&& 16 == 16) = true := by decide +kernel
  exact this _ h
theorem bfsX_16 (w : Nat → Nat) : ∀ (k i : Nat) (L : List Met1), bfsX 16 n w k i L = bfsA n w k i L
  | 0, _, _ => rfl
  | k + 1, i, L => by
    unfold bfsA bfsX
    by_cases c : i < L.length
    · rw [if_pos c, if_pos ⟨c, stop16 L⟩, bfsX_16 w k]
    · rw [if_neg c, if_neg (fun z => c z.1)]
theorem tgt_iff {s : List Nat} {m : Nat} (hm : m < 16) : tgt m s ↔ bits4 (fun k => pz s k == 7) &&& m = m := by
  constructor
  · intro h
    apply tb_ext (n := 4) (Nat.lt_of_le_of_lt Nat.and_le_right hm) hm
    intro k hk
    rw [Nat.testBit_and, bits4_tb]
    cases c : m.testBit k with
    | false => simp
    | true => simp [hk, h k hk c]
  · intro h k hk c
    have := and_sub_tb (x := m) (m := bits4 (fun k => pz s k == 7)) (by rw [Nat.and_comm]; exact h) c
    rw [bits4_tb] at this
    simpa [hk] using this
theorem first_spec (hG : Gd n r w b s0 L) (hs : SearchL L sz st cf hl) {m : Nat} (hm : m < 16) {P : Int32 → Prop} (h1 : ∀ t x, fstT m L t x → P (nI t)) (h0 : (∀ e ∈ L, ¬ tgt m e.1) → P (-9)) : wp_X6_firstWith (nI m) sz st P := by
  have hlen := hG.len
  obtain ⟨rfl, hst⟩ := hs
  unfold wp_X6_firstWith
  refine kc1 L.length (fun j x => x = nI j ∧ ∀ i e, i < j → L[i]? = some e → ¬ tgt m e.1) ⟨rfl, fun i e h => absurd h (Nat.not_lt_zero i)⟩ ?_
  rintro j x K hj ⟨rfl, hno⟩ hK
  refine pk_le L.length j (fun c => h0 (fun e he => ?_)) (fun c => at_in (by omega) (by decide) ?_)
  · obtain ⟨i, hi⟩ := List.getElem?_of_mem he
    exact hno i e (by have := (List.getElem?_eq_some_iff.mp hi).1; omega) hi
  · have hp : L[j]? = some L[j] := List.getElem?_eq_getElem c
    have hmem := hG.2 _ (List.mem_of_getElem? hp)
    rw [(hst j _ hp).1]
    refine done_enc (hmem.1.2.pz hmem.1.1) ⟨fun c3 x6 e6 => hK c ⟨by rw [e6, nI_1], fun i e hi he => ?_⟩, fun c3 => ?_⟩
    · rw [done_and (by omega), ← tgt_iff hm] at c3
      by_cases q : i = j
      · subst q
        rw [hp] at he
        cases he
        exact c3
      · exact hno i e (by omega) he
    · rw [done_and (by omega), ← tgt_iff hm] at c3
      exact h1 j _ ⟨hp, c3, fun i y hi hy => hno i y hi hy⟩
theorem dep_le {i : Nat} (h : BInv n w s0 L i) : ∀ j, j < L.length → dep L j ≤ j := by
  intro j
  induction j using Nat.strongRecOn with
  | ind j ih =>
    intro hj
    rcases Nat.eq_zero_or_pos j with z | z
    · subst z; rw [dep_zero]; exact Nat.le_refl _
    · have hp : L[j]? = some L[j] := List.getElem?_eq_getElem hj
      have hf := (h.2.2.2.1 j _ hp z).2.1
      rw [dep_pos h hp z]
      have := ih _ hf (by omega)
      omega
theorem upL_le (h : BInv n w s0 L L.length) {t : Nat} (ht : t < L.length) : ∀ k, k ≤ dep L t → upL L k t ≤ t
  | 0, _ => Nat.le_refl t
  | k + 1, hk => by
    have h1 := upL_le h ht k (by omega)
    obtain ⟨h2, h3⟩ := upL_spec h ht k (by omega)
    have hp : L[upL L k t]? = some L[upL L k t] := List.getElem?_eq_getElem h2
    have h0 : 0 < upL L k t := by
      rcases Nat.eq_zero_or_pos (upL L k t) with z | z
      · rw [z, dep_zero] at h3; omega
      · exact z
    have e : upL L (k + 1) t = L[upL L k t].2.1 := by
      show (L.getD (upL L k t) ([], 0, 0, 0, 0)).2.1 = _
      rw [getD_at hp]
    have := (h.parent hp h0).1
    omega
/-- the class's count of halts, over a row that is the first part of the whole one -/
theorem haltsTo_spec {M N : List Met1} (hM : M = L ++ N) (hB : BInv n w s0 M M.length) (hlen : L.length ≤ 128) (hs : SearchL L sz st cf hl) {t : Nat} (ht : t < L.length) {P : Int32 → Prop} (hP : P (nI (dep M t))) : wp_X6_haltsTo (nI t) sz cf P := by
  obtain ⟨rfl, hst⟩ := hs
  have htM : t < M.length := by rw [hM, List.length_append]; omega
  have hdt := dep_le hB t htM
  unfold wp_X6_haltsTo
  refine ⟨fun _ => ?_, fun z => absurd z (nI_n9 t (by omega))⟩
  refine kc2 (dep M t) (fun c x y => x = nI c ∧ y = nI (upL M c t)) ⟨rfl, rfl⟩ ?_
  rintro c x y K hc ⟨rfl, rfl⟩ hK
  obtain ⟨u1, u2⟩ := upL_spec hB htM c hc
  have u3 := upL_le hB htM c hc
  refine pk_le (upL M c t) 0 (fun c1 => ?_) (fun c1 => pk_le L.length c (fun c2 => by omega) (fun c2 x6 e6 => at_in (by omega) (by decide) ?_))
  · have z : upL M c t = 0 := by omega
    rw [z, dep_zero] at u2
    have e : c = dep M t := by omega
    rw [e]; exact hP
  · have hlt : c < dep M t := by
      apply Nat.lt_of_not_le
      intro q
      have d0 : dep M (upL M c t) = 0 := by omega
      have hp : M[upL M c t]? = some M[upL M c t] := List.getElem?_eq_getElem u1
      rw [dep_pos hB hp c1] at d0
      omega
    have hpL : L[upL M c t]? = some L[upL M c t] := List.getElem?_eq_getElem (by omega)
    have pre : ∀ {i : Nat} {q : Met1}, L[i]? = some q → M[i]? = some q := fun h => by rw [hM]; exact pre_at h
    have hpM := pre hpL
    refine hK hlt ⟨by rw [e6, nI_1], ?_⟩
    rw [((hst _ _ hpL).2 c1).1]
    show _ = nI (M.getD (upL M c t) ([], 0, 0, 0, 0)).2.1
    rw [getD_at hpM]
end SEARCH
