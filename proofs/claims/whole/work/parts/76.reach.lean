/-! PURE ROWS: reached, fewest, never -/
theorem gd_fm {n r : Nat} {w b : Nat → Nat} {s0 : List Nat} : ∀ (es L : List Met1), Gd n r w b s0 L → (∀ e ∈ es, StG n r b e.1 ∧ Kin w s0 e.1) → Gd n r w b s0 (fm L es)
  | [], _, h, _ => h
  | e :: es, L, h, he => gd_fm es (meetA L e) (h.meet (he e List.mem_cons_self).1 (he e List.mem_cons_self).2) (fun x hx => he x (List.mem_cons_of_mem _ hx))
theorem gd_bfsA {n r : Nat} {w b : Nat → Nat} {s0 : List Nat} : ∀ (k i : Nat) (L : List Met1), Gd n r w b s0 L → Gd n r w b s0 (bfsA n w k i L)
  | 0, _, _, h => h
  | k + 1, i, L, h => by
    unfold bfsA
    by_cases c : i < L.length
    · rw [if_pos c]
      refine gd_bfsA k (i + 1) _ ?_
      rw [spreadA_fm]
      have hp : L[i]? = some L[i] := List.getElem?_eq_getElem c
      have hg : (L.getD i ([], 0, 0, 0, 0)).1 = L[i].1 := by rw [List.getD_eq_getElem?_getD, hp]; rfl
      rw [hg]
      obtain ⟨g1, g2⟩ := h.2 _ (List.mem_of_getElem? hp)
      refine gd_fm _ _ h (fun e he => ?_)
      obtain ⟨f, q, hf, hq, rfl⟩ := allE_mem.mp he
      exact mkE_ok g1 g2 ⟨hf, hq⟩
    · rw [if_neg c]; exact h
theorem bfs_gd {n r : Nat} {w b : Nat → Nat} {s : List Nat} (hg : StG n r b s) : Gd n r w b s (bfs n w s) := by
  refine gd_bfsA 128 0 _ ⟨List.pairwise_singleton _ _, fun e he => ?_⟩
  rw [List.mem_singleton.mp he]
  exact ⟨hg, Kin.rf w s⟩
section CORE2
variable {n r t h : Nat} {w b HF HO HI : Nat → Nat} {s : List Nat} {lf lr lt lst lsz : Int32} {lw ls lwa lsa lrow : Nat → Int32} {mf mr mt mho mfl mh : Int32} {mat mw ms mmade : Nat → Int32}
theorem Core.st (hC : Core n r t h w b HF HO HI s lf lr lt lst lsz lw ls lwa lsa lrow mf mr mt mho mfl mh mat mw ms mmade) : StG n r b s ∧ r ≤ 4 ∧ lf = nI n ∧ mf = nI n ∧ lr = nI r ∧ mr = nI r ∧ lst = nI (encS s) ∧ (∀ f, f < 6 → lwa f = nI (bits4 fun k => decide (k < r) && w k == f)) ∧ (∀ f, f < 6 → lsa f = nI (bits4 fun k => decide (k < r) && b k == f)) := by
  obtain ⟨⟨hn2, hn6, hr, ht, hwb⟩, hS', hT, hR, ⟨l1, l2, -, -, -, -, hwa, hsa⟩, e1, -, hrow, ⟨m1, m2, -⟩, -⟩ := hC
  exact ⟨⟨hn6, hS'⟩, hr, l1, m1, l2, m2, e1, hwa, hsa⟩
theorem Core.now (hC : Core n r t h w b HF HO HI s lf lr lt lst lsz lw ls lwa lsa lrow mf mr mt mho mfl mh mat mw ms mmade) : NowOk n r w b s mat mw ms := by
  obtain ⟨⟨hn2, hn6, hr, ht, hwb⟩, hS', hT, hR, -, -, -, -, ⟨m1, m2, -, m4, m5⟩, hat, -⟩ := hC
  exact ⟨⟨hn6, hS'⟩, hr, hat, fun k hk => ⟨m4 k hk, (hwb k hk).1⟩, m5⟩
theorem searchAll_spec (hC : Core n r t h w b HF HO HI s lf lr lt lst lsz lw ls lwa lsa lrow mf mr mt mho mfl mh mat mw ms mmade) {sea ssz fl v1 v2 v3 v4 : Int32} {sst scf shl : Nat → Int32} (hS : sea = 0 ∨ (sea = 1 ∧ SearchL (bfs n w s) ssz sst scf shl))
    {P : Int32 → Int32 → Int32 → (Nat → Int32) → (Nat → Int32) → (Nat → Int32) → Int32 → Int32 → Int32 → Int32 → Prop} (hP : ∀ sz fl st cf hl v1 v2 v3 v4, SearchL (bfs n w s) sz st cf hl → P 1 sz fl st cf hl v1 v2 v3 v4) : wp_X10_searchAll sea lst ssz fl sst scf shl lf lwa lsa v1 v2 v3 v4 P := by
  obtain ⟨hg, hr, rfl, -, -, -, rfl, hwa, hsa⟩ := hC.st
  unfold wp_X10_searchAll
  rcases hS with rfl | ⟨rfl, hS⟩
  · refine b_no' ?_
    show wp_X6_explore _ (nI 16) _ _ _ _ _ _ _ _ _ _ _
    refine explore_spec hg hr hwa hsa (by decide) (fun sz fl st cf hl v4 v5 v6 v7 _ hL => ?_)
    rw [bfsX_16] at hL
    exact hP _ _ _ _ _ _ _ _ _ hL
  · exact b_yes' (hP _ _ _ _ _ _ _ _ _ hS)
end CORE2
theorem s_reached : S_reached := by
  intro sea lst ssz fl sst scf shl lf lwa lsa v1 v2 v3 v4 mf was mat row now ms mw before lr lt lsz lw ls lrow mr mt mho mfl mh mmade hD
  obtain ⟨n, r, t, h, w, b, HF, HO, HI, s, hC, hS⟩ := hD
  unfold wp_X10_reached
  refine searchAll_spec hC hS (fun sz fl st cf hl v1 v2 v3 v4 hL => ?_)
  unfold wp_X6_size wp_X11_reached
  have em : mf = nI n := hC.st.2.2.2.1
  rw [em]
  refine goAll_spec hC.now (fun v f g h1 h2 hG hR => ⟨hL.1.trans hR.1.symm, ?_⟩)
  rw [← em]
  exact ⟨n, r, t, h, w, b, HF, HO, HI, s, hC, Or.inr ⟨rfl, hL⟩⟩
/-! sets of riders -/
theorem rb_I : ∀ r, r < 5 → ((1 : Int32) <<< (nI r &&& 31)) - (1 : Int32) = nI (2 ^ r - 1) := by decide +kernel
theorem pow_16 {r : Nat} (hr : r ≤ 4) : 2 ^ r ≤ 16 ∧ 1 ≤ 2 ^ r := ⟨Nat.pow_le_pow_right (by decide) hr, Nat.one_le_two_pow⟩
theorem hasR_in {r m : Nat} {P : Int32 → Prop} (hr : r ≤ 4) (hm : m < 2 ^ r) (hP : P 1) : wp_X3_hasRiders (nI m) (nI r) P := by
  obtain ⟨p1, p2⟩ := pow_16 hr
  unfold wp_X3_hasRiders wp_X3_riderBits
  rw [rb_I r (by omega)]
  refine ⟨fun c => absurd ?_ c, fun _ => hP⟩
  rw [andn_0 (by omega), Nat.and_two_pow_sub_one_eq_mod]
  exact Nat.mod_eq_of_lt hm
theorem hasR_out {r : Nat} {p : Int32} {P : Int32 → Prop} (hr : r ≤ 4) (h : p < 0 ∨ nI (2 ^ r) ≤ p) (hP : P 0) : wp_X3_hasRiders p (nI r) P := by
  obtain ⟨p1, p2⟩ := pow_16 hr
  unfold wp_X3_hasRiders wp_X3_riderBits
  rw [rb_I r (by omega)]
  refine ⟨fun _ => hP, fun c => ?_⟩
  exfalso
  rcases set_cases p with ⟨o, ho, rfl⟩ | c2
  · rw [andn_0 ho, Nat.and_two_pow_sub_one_eq_mod] at c
    have : o < 2 ^ r := by rw [← c]; exact Nat.mod_lt _ (by omega)
    rcases h with h | h
    · exact nI_pos ho h
    · exact nI_ge this (by omega) h
  · exact andn_neg (by omega) c2 c
theorem noS_in {r m : Nat} {P : Int32 → Prop} (hr : r ≤ 4) (hm : m < 2 ^ r) (hP : P 0) : wp_X11_noSet (nI m) (nI r) P := by
  obtain ⟨p1, p2⟩ := pow_16 hr
  unfold wp_X11_noSet
  rw [rb_I r (by omega)]
  have e : ((nI (2 ^ r - 1)).toInt64).toInt = ((2 ^ r : Nat) : Int) - 1 := by rw [i64_of, nI_toInt (by omega)]; omega
  exact in_spec (fun _ => b_yes' hP) (fun z => absurd ((in_0n (m := 2 ^ r) (by omega) _ _ e).mpr (fun y => y.elim (fun y => nI_pos (by omega) y) (fun y => nI_ge hm (by omega) y))) z)
theorem noS_out {r : Nat} {p : Int32} {P : Int32 → Prop} (hr : r ≤ 4) (h : p < 0 ∨ nI (2 ^ r) ≤ p) (hP : P 1) : wp_X11_noSet p (nI r) P := by
  obtain ⟨p1, p2⟩ := pow_16 hr
  unfold wp_X11_noSet
  rw [rb_I r (by omega)]
  have e : ((nI (2 ^ r - 1)).toInt64).toInt = ((2 ^ r : Nat) : Int) - 1 := by rw [i64_of, nI_toInt (by omega)]; omega
  exact in_spec (fun z => absurd h ((in_0n (m := 2 ^ r) (by omega) _ _ e).mp z)) (fun _ => b_no' hP)
/-- how few halts, the class's way -/
theorem cfew_spec {n r : Nat} {w b : Nat → Nat} {s : List Nat} {sz : Int32} {st cf hl : Nat → Int32} (hg : StG n r b s) (hL : SearchL (bfs n w s) sz st cf hl) {m : Nat} (hm : m < 16) {P : Int32 → Prop} (h1 : ∀ k t x, k ≤ 128 → Few n w m k s → fstT m (bfs n w s) t x → k = dep (bfs n w s) t → P (nI k)) (h0 : (∀ k, ¬ rch n w m k s) → P (-9)) :
    wp_X6_firstWith (nI m) sz st (fun i => wp_X6_haltsTo i sz cf P) := by
  have hG := bfs_gd (w := w) hg
  have hlen := hG.len
  have hB := bfs_spec hlen
  refine first_spec hG hL hm (fun t x ht => ?_) (fun hno => ?_)
  · have htl := (List.getElem?_eq_some_iff.mp ht.1).1
    have := dep_le hB t htl
    have hf := fst_least hB ht
    exact haltsTo_spec (N := []) (by rw [List.append_nil]) hB hlen hL htl (h1 _ t x (by omega) ⟨hf.1, hf.2⟩ ht rfl)
  · unfold wp_X6_haltsTo
    exact ⟨fun z => absurd rfl z, fun _ => h0 (fun k => no_fst hB (fun j y hj => hno y (List.mem_of_getElem? hj)) k)⟩
theorem s_fewest : S_fewest := by
  intro p0 sea lst lf lr ssz fl sst scf shl lwa lsa v1 v2 v3 v4 mf mr mrows was mat row now ms mw before far lt lsz lw ls lrow mt mho mfl mh mmade hD
  have hD0 := hD
  obtain ⟨n, r, t, h, w, b, HF, HO, HI, s, hC, hS⟩ := hD
  obtain ⟨hg, hr, -, em, er, emr, -⟩ := hC.st
  obtain ⟨p1, p2⟩ := pow_16 hr
  unfold wp_X10_fewest wp_X11_fewest
  rw [er, emr, em]
  rcases cases_n (m := 2 ^ r) (by omega) p0 with ⟨m, hm, rfl⟩ | hb
  · refine hasR_in hr hm (b_yes' (searchAll_spec hC hS (fun sz fl st cf hl v1 v2 v3 v4 hL => ?_)))
    have fin : RD lf (nI r) lt lst lsz lw ls lwa lsa lrow 1 sz st cf hl (nI n) (nI r) mt mho mfl mh mat mw ms mmade := by
      rw [← er, ← em]
      rw [show mr = lr from emr.trans er.symm] at hC
      exact ⟨n, r, t, h, w, b, HF, HO, HI, s, hC, Or.inr ⟨rfl, hL⟩⟩
    refine cfew_spec hg hL (by omega) (fun k _ _ hk hf _ _ => noS_in hr hm (b_no (fewestOf_spec hC.now (by omega) (fun v0 v f g h1 h2 far hv _ _ _ _ => ?_)))) (fun hno => noS_in hr hm (b_no (fewestOf_spec hC.now (by omega) (fun v0 v f g h1 h2 far hv _ _ _ _ => ?_))))
    · rcases hv with ⟨a1, a2⟩ | ⟨a1, -⟩
      · have := few_one a2 hf
        subst this
        exact ⟨fun _ => ⟨rfl, fin⟩, fun z => absurd ((nI_eq (b := 99999) (by omega) (by decide)).mp z) (by omega)⟩
      · exact absurd hf.1 (a1 k)
    · rcases hv with ⟨a1, a2⟩ | ⟨a1, rfl⟩
      · exact absurd a2.1 (hno v0)
      · exact ⟨fun z => absurd rfl z, fun _ => ⟨rfl, fin⟩⟩
  · refine hasR_out hr hb (b_no' (noS_out hr hb (b_yes ⟨rfl, ?_⟩)))
    rw [← er, ← em]
    rw [show mr = lr from emr.trans er.symm] at hD0
    exact hD0
theorem bits4_or (P Q : Nat → Bool) : bits4 P ||| bits4 Q = bits4 fun k => P k || Q k := by
  apply tb_ext (n := 4) (Nat.or_lt_two_pow (n := 4) (bits4_lt _) (bits4_lt _)) (bits4_lt _)
  intro i hi
  rw [Nat.testBit_or, bits4_tb, bits4_tb, bits4_tb]
  cases P i <;> cases Q i <;> simp [hi]
def evN (L : List Met1) (j : Nat) : Nat := bits4 fun k => (L.take j).any fun e => pz e.1 k == 7
theorem evN_succ {L : List Met1} {j : Nat} (hj : j < L.length) : evN L (j + 1) = evN L j ||| bits4 fun k => pz L[j].1 k == 7 := by
  unfold evN
  rw [bits4_or]
  congr 1
  funext k
  rw [List.take_succ, List.getElem?_eq_getElem hj, List.any_append]
  simp
theorem ever_spec {n r : Nat} {w b : Nat → Nat} {s0 : List Nat} {L : List Met1} {sz : Int32} {st cf hl : Nat → Int32} (hG : Gd n r w b s0 L) (hs : SearchL L sz st cf hl) {P : Int32 → Prop} (hP : P (nI (evN L L.length))) : wp_X6_everDone sz st P := by
  have hlen := hG.len
  obtain ⟨rfl, hst⟩ := hs
  unfold wp_X6_everDone
  refine kc2 L.length (fun j x y => y = nI j ∧ x = nI (evN L j)) ⟨rfl, rfl⟩ ?_
  rintro j x y K hj ⟨rfl, rfl⟩ hK
  refine pk_le L.length j (fun c => ?_) (fun c => at_in (by omega) (by decide) ?_)
  · have e : j = L.length := by omega
    subst e; exact hP
  · have hp : L[j]? = some L[j] := List.getElem?_eq_getElem c
    have hmem := hG.2 _ (List.mem_of_getElem? hp)
    rw [(hst j _ hp).1]
    refine done_enc (hmem.1.2.pz hmem.1.1) (fun x6 e6 x7 e7 => hK c ⟨by rw [e7, nI_1], ?_⟩)
    rw [e6, fa_or, evN_succ c]
theorem s_never : S_never := by
  intro sea lst ssz fl sst scf shl lf lr lwa lsa v1 v2 v3 v4 mf mr was mat row now ms mw before lt lsz lw ls lrow mt mho mfl mh mmade hD
  obtain ⟨n, r, t, h, w, b, HF, HO, HI, s, hC, hS⟩ := hD
  obtain ⟨hg, hr, -, em, er, emr, -⟩ := hC.st
  unfold wp_X10_never
  refine searchAll_spec hC hS (fun sz fl st cf hl v1 v2 v3 v4 hL => ?_)
  have hG := bfs_gd (w := w) hg
  have fin : RD lf lr lt lst lsz lw ls lwa lsa lrow 1 sz st cf hl mf mr mt mho mfl mh mat mw ms mmade := ⟨n, r, t, h, w, b, HF, HO, HI, s, hC, Or.inr ⟨rfl, hL⟩⟩
  unfold wp_X3_riderBits
  refine ever_spec hG hL ?_
  unfold wp_X11_never
  rw [em]
  refine goAll_spec hC.now (fun v f g h1 h2 hG hR => ?_)
  rw [← em]
  generalize bfs n w s = L at hG hR hL
  have hlen := hG.len
  obtain ⟨rfl, hrow, -⟩ := hR
  have hN := hC.now
  refine kc3 L.length (fun j x y _ => y = nI j ∧ x = nI (evN L j)) ⟨rfl, rfl⟩ ?_
  rintro j x y f8 K hj ⟨rfl, rfl⟩ hK
  refine pk_le L.length j (fun c => ?_) (fun c => ⟨vp_in_nI (by omega) (by decide), ?_⟩)
  · have e : j = L.length := by omega
    subst e
    exact ⟨by rw [er, emr], fin⟩
  · have hp : L[j]? = some L[j] := List.getElem?_eq_getElem c
    obtain ⟨hxg, hxk⟩ := hG.2 _ (List.mem_of_getElem? hp)
    rw [nI_clamp (by omega), hrow j _ hp]
    refine lay_spec (hxg.2.pz hxg.1) (lay_ok hN hxg hxk) (fun f11 h11 => ?_)
    rw [emr]
    refine kc2 r (fun i x y => y = nI i ∧ x = nI (evN L j ||| bitsN i fun k => pz L[j].1 k == 7)) ⟨rfl, by rw [show bitsN 0 (fun k => pz L[j].1 k == 7) = 0 from rfl, Nat.or_zero]⟩ ?_
    rintro i x y K2 hi ⟨rfl, rfl⟩ hK2
    refine pk_le r i (fun c2 x15 e15 => hK c ⟨by rw [e15, nI_1], ?_⟩) (fun c2 => ⟨vp_in_nI (by omega) (by decide), ?_⟩)
    · have e : i = r := by omega
      subst e
      rw [evN_succ c]
      congr 2
      apply tb_ext (n := 4) (Nat.lt_of_lt_of_le (bitsN_lt i _) (Nat.pow_le_pow_right (by decide) hr)) (bits4_lt _)
      intro k hk
      rw [bitsN_tb, bits4_tb]
      by_cases q : k < i
      · simp [q, hk]
      · have := hxg.2.2.2.1 k hk (by omega)
        simp [q, this]
    · have hz := (hxg.2.pz hxg.1).2 i (by omega)
      have hb := bitsN_lt i (fun k => pz L[j].1 k == 7)
      have e1 : bitsN (i + 1) (fun k => pz L[j].1 k == 7) = bitsN i (fun k => pz L[j].1 k == 7) + bN (pz L[j].1 i == 7) (2 ^ i) := rfl
      rw [nI_clamp (by omega), h11 i (by omega)]
      refine pk_ne (pz L[j].1 i) 7 (fun c7 x20 e20 x21 e21 => hK2 c2 ⟨by rw [e21, nI_1], ?_⟩) (fun c7 x18 e18 x19 e19 => hK2 c2 ⟨by rw [e19, nI_1], ?_⟩)
      · rw [e20, sh1 i (by omega), fa_or, e1, show (pz L[j].1 i == 7) = true by simpa using c7]
        congr 1
        show (evN L j ||| bitsN i _) ||| 2 ^ i = evN L j ||| (bitsN i _ + 2 ^ i)
        rw [Nat.or_assoc]
        congr 1
        rw [Nat.or_comm, Nat.add_comm]
        have := Nat.two_pow_add_eq_or_of_lt hb 1
        rw [Nat.mul_one] at this
        exact this.symm
      · rw [e18, e1, show (pz L[j].1 i == 7) = false by simpa using c7]
        rw [show (0 : Int32) = nI 0 from rfl, fa_or, Nat.or_zero]; rfl
