/-! PURE ROWS: plan -/
/-- the halt of a way: the class's, from the end -/
theorem onway_spec {n r : Nat} {w b : Nat → Nat} {s : List Nat} {sz : Int32} {st cf hl : Nat → Int32} (hg : StG n r b s) (hL : SearchL (bfs n w s) sz st cf hl) {t i : Nat} (ht : t < (bfs n w s).length) (hi : i < dep (bfs n w s) t) {P : Int32 → Prop}
    (hP : ∀ e, (bfs n w s)[upL (bfs n w s) (dep (bfs n w s) t - 1 - i) t]? = some e → P (nI (hkey e))) : wp_X6_haltOnWay (nI t) (nI i) sz cf hl P := by
  have hG := bfs_gd (w := w) hg
  have hlen := hG.len
  have hB := bfs_spec hlen
  have hdt := dep_le hB t ht
  generalize bfs n w s = L at hL ht hi hP hG hlen hB hdt
  unfold wp_X6_haltOnWay
  refine haltsTo_spec (N := []) (by rw [List.append_nil]) hB hlen hL ht ⟨fun z => absurd z (nI_pos (by omega)), fun _ => pk_lt i (dep L t) (fun c x4 e4 => ?_) (fun c => by omega)⟩
  obtain ⟨rfl, hst⟩ := hL
  refine kf2 (dep L t) (fun m x y => ∃ k, k ≤ dep L t - 1 - i ∧ m = dep L t - k ∧ x = nI (upL L k t) ∧ y = nI (dep L t - 1 - k)) ⟨0, by omega, rfl, rfl, ?_⟩ ?_
  · rw [e4, show (1 : Int32) = nI 1 from rfl, pk_sub (by omega)]
    rfl
  · rintro m x y K ⟨k, hk, rfl, rfl, rfl⟩ hK
    obtain ⟨u1, u2⟩ := upL_spec hB ht k (by omega)
    have hp : L[upL L k t]? = some L[upL L k t] := List.getElem?_eq_getElem u1
    have u0 : 0 < upL L k t := by
      rcases Nat.eq_zero_or_pos (upL L k t) with z | z
      · rw [z, dep_zero] at u2; omega
      · exact z
    obtain ⟨s1, s2⟩ := (hst _ _ hp).2 u0
    refine pk_le (dep L t - 1 - k) i (fun c2 => at_in (by omega) (by decide) ?_) (fun c2 => at_in (by omega) (by decide) (fun x10 e10 => hK (dep L t - (k + 1)) _ _ (by omega) ⟨k + 1, by omega, rfl, ?_, ?_⟩))
    · have e : k = dep L t - 1 - i := by omega
      subst e
      rw [s2]
      exact hP _ hp
    · rw [s1]
      show _ = nI (L.getD (upL L k t) ([], 0, 0, 0, 0)).2.1
      rw [getD_at hp]
    · rw [e10, show dep L t - 1 - k = (dep L t - 1 - (k + 1)) + 1 by omega, pk_m1]
section STEP
variable {n r : Nat} {w b : Nat → Nat}
def BestF (n : Nat) (w : Nat → Nat) (s : List Nat) (T : Nat → Nat × Nat → Prop) (f : Nat) (q : Nat × Nat) : Prop := mv n w s f q ∧ T f q ∧ ∀ f' q', mv n w s f' q' → T f' q' → mkey f q ≤ mkey f' q'
theorem best_of {s : List Nat} {T : Nat → Nat × Nat → Prop} {g : Nat} {q : Nat × Nat} {l : List (Nat × Nat)} (hm : mv n w s g q) (hT : T g q) (hp : (q :: l).Pairwise fun a b => a.1 * 64 + a.2 < b.1 * 64 + b.2) (hno : ∀ f' q', mv n w s f' q' → T f' q' → (f' = g ∧ q' ∈ q :: l) ∨ g < f') : BestF n w s T g q := by
  refine ⟨hm, hT, fun f' q' hm' hT' => ?_⟩
  obtain ⟨a1, a2, -⟩ := mv_bits hm
  obtain ⟨b1, b2, -⟩ := mv_bits hm'
  unfold mkey
  rcases hno f' q' hm' hT' with ⟨rfl, hq⟩ | h
  · rcases List.mem_cons.mp hq with rfl | hq
    · exact Nat.le_refl _
    · have := (List.pairwise_cons.mp hp).1 q' hq
      omega
  · omega
theorem findStep_spec {s : List Nat} (hg : StG n r b s) (hr : r ≤ 4) {before now far mw : Nat → Int32} {v3 v4 left : Int32} (hnow : ∀ k, k < 6 → now k = nI (pz s k)) (hw : ∀ k, k < r → mw k = nI (w k) ∧ w k < n)
    (hex : ∃ f q, mv n w s f q ∧ far (codeN (chg s f q.1 q.2)) = left) {P : Int32 → Int32 → Int32 → (Nat → Int32) → Prop} (hP : ∀ f q g, BestF n w s (fun f q => far (codeN (chg s f q.1 q.2)) = left) f q → P (nI f) (nI q.1) (nI q.2) g) : wp_X11_findStep left (nI n) v3 v4 now mw before far P := by
  have hn6 := hg.1
  unfold wp_X11_findStep
  obtain ⟨T, hT⟩ : ∃ T : Nat → Nat × Nat → Prop, T = fun f q => far (codeN (chg s f q.1 q.2)) = left := ⟨_, rfl⟩
  rw [← hT] at hP
  have hex : ∃ f q, mv n w s f q ∧ T f q := by rw [hT]; exact hex
  refine kc5 n (fun g x v2 v3 v4 _ => x = nI g ∧ ((v2 = -9 ∧ ∀ f' q', mv n w s f' q' → T f' q' → g ≤ f') ∨ ∃ f q, BestF n w s T f q ∧ v2 = nI f ∧ v3 = nI q.1 ∧ v4 = nI q.2)) ⟨rfl, Or.inl ⟨rfl, fun _ _ _ _ => Nat.zero_le _⟩⟩ ?_
  rintro g x v2 v3 v4 f5 K hj ⟨rfl, hx⟩ hK
  rcases hx with ⟨rfl, hx⟩ | ⟨f, q, hB, rfl, rfl, rfl⟩
  rotate_left
  · have := hB.1.1
    have n9 := nI_n9 f (by omega)
    exact pk_le n g (fun _ => hP f q f5 hB) (fun _ => ⟨fun _ => hP f q f5 hB, fun z => absurd z n9⟩)
  refine pk_le n g (fun c => ?_) (fun c => ⟨fun z => absurd rfl z, fun _ => mayOf_spec hg hr (by omega) hnow hw ?_⟩)
  · exfalso
    obtain ⟨f, q, hm, ht⟩ := hex
    have := hx f q hm ht
    have := hm.1
    omega
  rw [if_neg (by decide)]
  refine mayOf_spec hg hr (by omega) hnow hw ?_
  rw [if_pos rfl]
  have h1 := outM_lt w s g
  have h2 := inM_lt s g
  have hall := pairs_mv (n := n) (w := w) (s := s) c
  have hso := pairs_sorted (outM w s g) (inM s g)
  have hmem : ∀ q', mv n w s g q' → q' ∈ pairs (outM w s g) (inM s g) := fun q' h => h.2
  rw [outG_pairs] at hall hso hmem
  refine next0 h1 ?_
  refine kr5 (subs (outM w s g)) (fun l x v2 v3 v4 _ => x = nI (l.headD 0) ∧ NxC (outM w s g) l ∧ (∀ q ∈ outG (inM s g) l, mv n w s g q) ∧ (outG (inM s g) l).Pairwise (fun a b => a.1 * 64 + a.2 < b.1 * 64 + b.2) ∧ ((v2 = -9 ∧ ∀ f' q', mv n w s f' q' → T f' q' → (f' = g ∧ q' ∈ outG (inM s g) l) ∨ g < f') ∨ ∃ f q, BestF n w s T f q ∧ v2 = nI f ∧ v3 = nI q.1 ∧ v4 = nI q.2))
    ⟨rfl, (subs_chain h1).1, hall, hso, Or.inl ⟨rfl, fun f' q' hm' ht' => ?_⟩⟩ ?_ ?_
  · rcases Nat.lt_or_eq_of_le (hx f' q' hm' ht') with z | z
    · exact Or.inr z
    · subst z; exact Or.inl ⟨rfl, hmem q' hm'⟩
  · rintro x v2 v3 v4 f15 K2 ⟨rfl, -, -, -, hx⟩
    refine b_no (fun x17 e17 => hK c ⟨by rw [e17, nI_1], ?_⟩)
    rcases hx with ⟨rfl, hx⟩ | hx
    · refine Or.inl ⟨rfl, fun f' q' hm' ht' => ?_⟩
      rcases hx f' q' hm' ht' with ⟨-, z⟩ | z
      · exact absurd z List.not_mem_nil
      · exact z
    · exact Or.inr hx
  · rintro x l _ v2 v3 v4 f15 K2 ⟨rfl, hxc, hmv, hso, hx⟩ hK2
    refine ⟨fun z => absurd z (nz64 hxc.2.1 hxc.1), fun _ => ?_⟩
    rcases hx with ⟨rfl, hx⟩ | ⟨f, q, hB, rfl, rfl, rfl⟩
    rotate_left
    · have := hB.1.1
      have n9 := nI_n9 f (by omega)
      exact ⟨fun _ x19 e19 => hK c ⟨by rw [e19, nI_1], Or.inr ⟨f, q, hB, rfl, rfl, rfl⟩⟩, fun z => absurd z n9⟩
    refine ⟨fun z => absurd rfl z, fun _ => next0 h2 ?_⟩
    rw [outG_cons] at hmv hso hx
    refine kr5 (subs (inM s g)) (fun l2 y v2 v3 v4 _ => y = nI (l2.headD 0) ∧ NxC (inM s g) l2 ∧ (∀ q ∈ inG (inM s g) x l2 ++ outG (inM s g) l, mv n w s g q) ∧ (inG (inM s g) x l2 ++ outG (inM s g) l).Pairwise (fun a b => a.1 * 64 + a.2 < b.1 * 64 + b.2) ∧ ((v2 = -9 ∧ ∀ f' q', mv n w s f' q' → T f' q' → (f' = g ∧ q' ∈ inG (inM s g) x l2 ++ outG (inM s g) l) ∨ g < f') ∨ ∃ f q, BestF n w s T f q ∧ v2 = nI f ∧ v3 = nI q.1 ∧ v4 = nI q.2))
      ⟨rfl, (subs_chain h2).1, hmv, hso, Or.inl ⟨rfl, hx⟩⟩ ?_ ?_
    · rintro y v2 v3 v4 f25 K3 ⟨rfl, -, hmv, hso, hx⟩
      exact b_no (nextS h1 hxc (hK2 ⟨rfl, hxc.2.2.2, hmv, hso, hx⟩))
    · rintro y l2 _ v2 v3 v4 f25 K3 ⟨rfl, hy, hmv, hso, hx⟩ hK3
      refine ⟨fun z => absurd z (nz64 hy.2.1 hy.1), fun _ => ?_⟩
      rcases hx with ⟨rfl, hx⟩ | ⟨f, q, hB, rfl, rfl, rfl⟩
      rotate_left
      · have := hB.1.1
        have n9 := nI_n9 f (by omega)
        have hmv' : ∀ q ∈ outG (inM s g) l, mv n w s g q := fun q hq => hmv q (List.mem_append.mpr (Or.inr hq))
        exact ⟨fun _ => nextS h1 hxc (hK2 ⟨rfl, hxc.2.2.2, hmv', (List.pairwise_append.mp hso).2.1, Or.inr ⟨f, q, hB, rfl, rfl, rfl⟩⟩), fun z => absurd z n9⟩
      refine ⟨fun z => absurd rfl z, fun _ => many_spec hxc.2.1 (many_spec hy.2.1 ?_)⟩
      have px := pop_le x
      have py := pop_le y
      refine pk_ne (pop6 x) (pop6 y) (fun c2 => ?_) (fun c2 => nextS h2 hy (hK3 ⟨rfl, hy.2.2.2, ?_, ?_, Or.inl ⟨rfl, ?_⟩⟩))
      · rw [inG_yes _ _ _ _ c2, List.cons_append] at hmv hso hx
        have hm := hmv (x, y) List.mem_cons_self
        have g1 := mv_ok hg hm
        have hz := g1.2.pz g1.1
        have hc := codeN_lt hz
        refine behind_spec (q := (x, y)) hz hm hnow (fun g' => ⟨vp_in_nI hc (by decide), ?_⟩)
        rw [nI_clamp (by omega)]
        refine ⟨fun cf => nextS h2 hy (hK3 ⟨rfl, hy.2.2.2, fun q hq => hmv q (List.mem_cons_of_mem _ hq), (List.pairwise_cons.mp hso).2, Or.inl ⟨rfl, fun f' q' hm' ht' => ?_⟩⟩), fun cf => nextS h2 hy (hK3 ⟨rfl, hy.2.2.2, fun q hq => hmv q (List.mem_cons_of_mem _ hq), (List.pairwise_cons.mp hso).2, Or.inr ⟨g, (x, y), ?_, rfl, rfl, rfl⟩⟩)⟩
        · rcases hx f' q' hm' ht' with ⟨e1, z⟩ | z
          · rcases List.mem_cons.mp z with rfl | z
            · rw [hT] at ht'
              subst e1
              exact absurd ht' cf
            · exact Or.inl ⟨e1, z⟩
          · exact Or.inr z
        · exact best_of hm (by rw [hT]; exact cf) hso hx
      · rw [inG_no _ _ _ _ c2] at hmv; exact hmv
      · rw [inG_no _ _ _ _ c2] at hso; exact hso
      · rw [inG_no _ _ _ _ c2] at hx; exact hx
end STEP
/-- one halt of the reference's plan is the way's -/
theorem way_step {n m : Nat} {w : Nat → Nat} {s0 : List Nat} {L : List Met1} {far : Nat → Int32} (hB : BInv n w s0 L L.length) (hF : ∀ e ∈ L, ∃ v, far (codeN e.1) = nI v ∧ FvE n w m e.1 v) {t : Nat} {x : Met1} (ht : fstT m L t x) {k : Nat} (hk : k + 1 ≤ dep L t) (hd : dep L t ≤ 128) {p e : Met1} (hp : L[upL L (k + 1) t]? = some p) (he : L[upL L k t]? = some e) :
    ∃ f q, mv n w p.1 f q ∧ e = mkE p.1 (upL L (k + 1) t) f q ∧ far (codeN (chg p.1 f q.1 q.2)) = nI k ∧ ∀ f' q', BestF n w p.1 (fun f q => far (codeN (chg p.1 f q.1 q.2)) = nI k) f' q' → f' = f ∧ q' = q := by
  obtain ⟨⟨f, q, hm, e1, hr⟩, hmin⟩ := way_next hB ht hk hp he
  have htl := (List.getElem?_eq_some_iff.mp ht.1).1
  obtain ⟨v1, v2⟩ := upL_spec hB htl (k + 1) hk
  have low : ∀ j, rch n w m j p.1 → k + 1 ≤ j := by
    intro j hj
    have h1 := far_down hB _ j p hp hj
    have h2 := (fst_least hB ht).2 _ h1
    omega
  have iff : ∀ f' q', mv n w p.1 f' q' → (far (codeN (chg p.1 f' q'.1 q'.2)) = nI k ↔ rch n w m k (chg p.1 f' q'.1 q'.2)) := by
    intro f' q' hm'
    obtain ⟨y, hy, ey⟩ := hB.cl p (List.mem_of_getElem? hp) f' q' hm'
    obtain ⟨v, a1, a2⟩ := hF y hy
    rw [ey] at a1 a2
    rw [a1]
    have low' : ∀ j, rch n w m j (chg p.1 f' q'.1 q'.2) → k ≤ j := by
      intro j hj
      have := low (j + 1) ⟨f', q', hm', hj⟩
      omega
    constructor
    · intro z
      rcases a2 with ⟨b1, b2⟩ | ⟨b1, b2⟩
      · have : v = k := (nI_eq (by omega) (by omega)).mp z
        rw [← this]; exact b2.1
      · have : v = k := (nI_eq (by omega) (by omega)).mp z
        omega
    · intro z
      rcases a2 with ⟨b1, b2⟩ | ⟨b1, b2⟩
      · rw [few_one b2 ⟨z, low'⟩]
      · exact absurd z (b1 k)
  have hr' : rch n w m k (chg p.1 f q.1 q.2) := by rw [e1] at hr; exact hr
  refine ⟨f, q, hm, e1, (iff f q hm).mpr hr', fun f' q' hb => ?_⟩
  have h1 := hb.2.2 f q hm ((iff f q hm).mpr hr')
  have h2 := hmin f' q' hb.1 ((iff f' q' hb.1).mp hb.2.1)
  rw [e1, hkey_mkE] at h2
  obtain ⟨a1, a2, -⟩ := mv_bits hm
  obtain ⟨b1, b2, -⟩ := mv_bits hb.1
  unfold mkey at h1 h2
  refine ⟨by omega, Prod.ext (by omega) (by omega)⟩
theorem s_plan : S_plan := by
  intro p0 p1 p2 sea lst lf lr ssz fl sst scf shl lwa lsa v1 v2 v3 v4 mf mr mrows mpl mpo mpi was mat row now ms mw before far lt lsz lw ls lrow mt mho mfl mh mmade hD
  have hD0 := hD
  obtain ⟨n, r, t, h, w, b, HF, HO, HI, s, hC, hS⟩ := hD
  obtain ⟨hg, hr, -, em, er, emr, -⟩ := hC.st
  have hN := hC.now
  have hn6 := hg.1
  obtain ⟨p16, p16'⟩ := pow_16 hr
  unfold wp_X10_plan
  have fin : ∀ {sz : Int32} {st cf hl : Nat → Int32}, SearchL (bfs n w s) sz st cf hl → RD lf lr lt lst lsz lw ls lwa lsa lrow 1 sz st cf hl mf mr mt mho mfl mh mat mw ms mmade := fun hL => ⟨n, r, t, h, w, b, HF, HO, HI, s, hC, Or.inr ⟨rfl, hL⟩⟩
  rw [er]
  rcases cases_n (m := 2 ^ r) (by omega) p0 with ⟨m, hm, rfl⟩ | hb
  rotate_left
  · refine hasR_out hr hb (b_no ?_)
    unfold wp_X11_plan
    rw [emr]
    refine noS_out hr hb (b_yes' ⟨rfl, ?_⟩)
    have := hD0
    rw [er, emr] at this
    exact this
  refine hasR_in hr hm (b_yes ?_)
  unfold wp_X2_tells
  rcases cases_n (m := 3) (by decide) p2 with ⟨q, hq, rfl⟩ | hb
  rotate_left
  · have out : wp_X11_plan (nI m) p1 p2 mf mr mrows mpl mpo mpi was mat row now ms mw before far (fun r2 z0 z1 z2 z3 z4 z5 z6 z7 z8 z9 => (-2 : Int32) = r2 ∧ RD lf (nI r) lt lst lsz lw ls lwa lsa lrow sea ssz sst scf shl mf mr mt mho mfl mh mat mw ms mmade) := by
      unfold wp_X11_plan
      rw [emr]
      refine noS_in hr hm (b_no' (in_spec (fun z => absurd hb ((in_0n (m := 3) (by decide) _ 2 (by decide)).mp z)) (fun _ => b_no' ⟨rfl, ?_⟩)))
      have := hD0
      rw [er, emr] at this
      exact this
    refine ⟨fun _ => b_no' out, fun c => ⟨fun c2 => b_no' out, fun c2 => ?_⟩⟩
    rcases hb with y | y
    · exact absurd y c
    · exfalso
      rw [Int32.le_iff_toInt_le, show (nI 3).toInt = 3 from by decide] at y
      rw [Int32.lt_iff_toInt_lt, show (2 : Int32).toInt = 2 from by decide] at c2
      omega
  refine ⟨fun c => absurd c (nI_pos (by omega)), fun _ => ⟨fun c => absurd c (nI_nlt (a := 2) (by omega) (by decide)), fun _ => b_yes' ?_⟩⟩
  refine searchAll_spec hC hS (fun sz fl st cf hl v1 v2 v3 v4 hL => ?_)
  rw [← er]
  have hfin := fin hL
  have i1 : ∀ {P : Int32 → Prop}, P 1 → wp_X11_in (nI q).toInt64 0 2 P := fun hP => in_spec (fun _ => hP) (fun z => absurd ((in_0n (m := 3) (by decide) _ 2 (by decide)).mpr (fun y => y.elim (fun y => nI_pos (by omega) y) (fun y => nI_ge hq (by decide) y))) z)
  have hG := bfs_gd (w := w) hg
  have hlen := hG.len
  have hB := bfs_spec hlen
  refine first_spec hG hL (by omega) (fun tt x ht => ?_) (fun hno => ?_)
  rotate_left
  · have noP : wp_X6_haltOnWay (-9) p1 sz cf hl (fun r_16 => ((¬ r_16 = (-9 : Int32) → (wp_X2_told r_16 (nI q) (fun r_18 => wp_X11_plan (nI m) p1 (nI q) mf mr mrows mpl mpo mpi was mat row now ms mw before far (fun r2 z0 z1 z2 z3 z4 z5 z6 z7 z8 z9 => r_18 = r2 ∧ RD lf lr lt lst lsz lw ls lwa lsa lrow 1 sz st cf hl mf mr mt mho mfl mh mat mw ms mmade)))) ∧ (r_16 = (-9 : Int32) → wp_X11_plan (nI m) p1 (nI q) mf mr mrows mpl mpo mpi was mat row now ms mw before far (fun r2 z0 z1 z2 z3 z4 z5 z6 z7 z8 z9 => (-9 : Int32) = r2 ∧ RD lf lr lt lst lsz lw ls lwa lsa lrow 1 sz st cf hl mf mr mt mho mfl mh mat mw ms mmade)))) := by
      have out : wp_X11_plan (nI m) p1 (nI q) mf mr mrows mpl mpo mpi was mat row now ms mw before far (fun r2 z0 z1 z2 z3 z4 z5 z6 z7 z8 z9 => (-9 : Int32) = r2 ∧ RD lf lr lt lst lsz lw ls lwa lsa lrow 1 sz st cf hl mf mr mt mho mfl mh mat mw ms mmade) := by
        unfold wp_X11_plan
        rw [emr] at hfin ⊢
        rw [em] at hfin ⊢
        refine noS_in hr hm (b_no' (i1 (b_yes' (fewestOf_spec hN (by omega) (fun v0 v f g h1 h2 far hv _ _ _ _ => ?_)))))
        rcases hv with ⟨a1, a2⟩ | ⟨a1, rfl⟩
        · exact absurd a2.1 (no_fst hB (fun j y hj => hno y (List.mem_of_getElem? hj)) v0)
        · exact ⟨fun _ => ⟨rfl, hfin⟩, fun z => absurd rfl z⟩
      have o2 : ((¬ (-9 : Int32) = (-9 : Int32) → (wp_X2_told (-9) (nI q) (fun r_18 => wp_X11_plan (nI m) p1 (nI q) mf mr mrows mpl mpo mpi was mat row now ms mw before far (fun r2 z0 z1 z2 z3 z4 z5 z6 z7 z8 z9 => r_18 = r2 ∧ RD lf lr lt lst lsz lw ls lwa lsa lrow 1 sz st cf hl mf mr mt mho mfl mh mat mw ms mmade)))) ∧ ((-9 : Int32) = (-9 : Int32) → wp_X11_plan (nI m) p1 (nI q) mf mr mrows mpl mpo mpi was mat row now ms mw before far (fun r2 z0 z1 z2 z3 z4 z5 z6 z7 z8 z9 => (-9 : Int32) = r2 ∧ RD lf lr lt lst lsz lw ls lwa lsa lrow 1 sz st cf hl mf mr mt mho mfl mh mat mw ms mmade))) := ⟨fun z => absurd rfl z, fun _ => out⟩
      unfold wp_X6_haltOnWay wp_X6_haltsTo
      refine ⟨fun z => absurd rfl z, fun _ => ⟨fun _ => o2, fun c => ⟨fun c2 => ?_, fun _ => o2⟩⟩⟩
      exfalso
      rw [Int32.lt_iff_toInt_lt, show (0 : Int32).toInt = 0 from by decide] at c
      rw [Int32.lt_iff_toInt_lt, show (-9 : Int32).toInt = -9 from by decide] at c2
      omega
    exact noP
  · have htl := (List.getElem?_eq_some_iff.mp ht.1).1
    have hdt := dep_le hB tt htl
    have hfst := fst_least hB ht
    have hfew : Few n w m (dep (bfs n w s) tt) s := ⟨hfst.1, hfst.2⟩
    -- the reference's answer, when its in is decided
    rcases cases_n (m := dep (bfs n w s) tt) (by omega) p1 with ⟨i, hi, rfl⟩ | hb
    rotate_left
    · have out : wp_X11_plan (nI m) p1 (nI q) mf mr mrows mpl mpo mpi was mat row now ms mw before far (fun r2 z0 z1 z2 z3 z4 z5 z6 z7 z8 z9 => (-9 : Int32) = r2 ∧ RD lf lr lt lst lsz lw ls lwa lsa lrow 1 sz st cf hl mf mr mt mho mfl mh mat mw ms mmade) := by
        unfold wp_X11_plan
        rw [emr] at hfin ⊢
        rw [em] at hfin ⊢
        refine noS_in hr hm (b_no' (i1 (b_yes' (fewestOf_spec hN (by omega) (fun v0 v f g h1 h2 far hv _ _ _ _ => ?_)))))
        rcases hv with ⟨a1, a2⟩ | ⟨a1, rfl⟩
        · have e0 := few_one a2 hfew
          subst e0
          have ei : ((nI (dep (bfs n w s) tt) - (1 : Int32)).toInt64).toInt = (dep (bfs n w s) tt : Int) - 1 := by rw [i64_of]; exact pk_sub_toInt (b := 1) (by omega) (by decide)
          exact ⟨fun z => absurd ((nI_eq (b := 99999) (by omega) (by decide)).mp z) (by omega), fun _ => in_spec (fun z => absurd hb ((in_0n (m := dep (bfs n w s) tt) (by omega) _ _ ei).mp z)) (fun _ => b_no' ⟨rfl, hfin⟩)⟩
        · exact absurd hfew.1 (a1 _)
      unfold wp_X6_haltOnWay
      have o2 : ∀ {A : Prop}, ((¬ (-9 : Int32) = (-9 : Int32) → A) ∧ ((-9 : Int32) = (-9 : Int32) → wp_X11_plan (nI m) p1 (nI q) mf mr mrows mpl mpo mpi was mat row now ms mw before far (fun r2 z0 z1 z2 z3 z4 z5 z6 z7 z8 z9 => (-9 : Int32) = r2 ∧ RD lf lr lt lst lsz lw ls lwa lsa lrow 1 sz st cf hl mf mr mt mho mfl mh mat mw ms mmade))) := ⟨fun z => absurd rfl z, fun _ => out⟩
      refine haltsTo_spec (N := []) (by rw [List.append_nil]) hB hlen hL htl ⟨fun _ => o2, fun c => ⟨fun c2 => ?_, fun _ => o2⟩⟩
      rcases hb with y | y
      · exact absurd y c
      · exact absurd c2 (by rw [Int32.lt_iff_toInt_lt]; rw [Int32.le_iff_toInt_le] at y; omega)
    · refine onway_spec hg hL htl hi (fun e he => ?_)
      -- the halt of the class
      obtain ⟨u1, u2⟩ := upL_spec hB htl (dep (bfs n w s) tt - 1 - i) (by omega)
      obtain ⟨u3, u4⟩ := upL_spec hB htl (dep (bfs n w s) tt - 1 - i + 1) (by omega)
      have u0 : 0 < upL (bfs n w s) (dep (bfs n w s) tt - 1 - i) tt := by
        rcases Nat.eq_zero_or_pos (upL (bfs n w s) (dep (bfs n w s) tt - 1 - i) tt) with z | z
        · rw [z, dep_zero] at u2; omega
        · exact z
      obtain ⟨-, p', f0, q0, h2, hm0, h4⟩ := hB.parent he u0
      obtain ⟨b1, b2, -⟩ := mv_bits hm0
      have bf := hm0.1
      have ek : hkey e = f0 * 4096 + q0.1 * 64 + q0.2 := by rw [h4]; rfl
      have n9 : ∀ x, x < 32768 → ¬ nI x = (-9 : Int32) := by
        intro x hx z
        have := congrArg Int32.toInt z
        rw [nI_toInt (by omega), show (-9 : Int32).toInt = -9 from by decide] at this
        omega
      rw [ek]
      refine ⟨fun _ => ?_, fun z => absurd z (n9 _ (by omega))⟩
      have told : ∀ {P : Int32 → Prop}, P (if q = 0 then nI f0 else if q = 1 then nI q0.1 else nI q0.2) → wp_X2_told (nI (f0 * 4096 + q0.1 * 64 + q0.2)) (nI q) P := by
        intro P hP
        rcases (show q = 0 ∨ q = 1 ∨ q = 2 by omega) with rfl | rfl | rfl
        · exact told0 (by omega) b1 b2 hP
        · exact told1 (by omega) b1 b2 hP
        · exact told2 (by omega) b1 b2 hP
      refine told ?_
      unfold wp_X11_plan
      rw [emr] at hfin ⊢
      rw [em] at hfin ⊢
      refine noS_in hr hm (b_no' (i1 (b_yes' (fewestOf_spec hN (by omega) (fun v0 v f g h1 h2' far hv _ _ _ hF => ?_)))))
      have e0 : v0 = dep (bfs n w s) tt := by
        rcases hv with ⟨a1, a2⟩ | ⟨a1, -⟩
        · exact few_one a2 hfew
        · exact absurd hfew.1 (a1 _)
      subst e0
      have ei : ((nI (dep (bfs n w s) tt) - (1 : Int32)).toInt64).toInt = (dep (bfs n w s) tt : Int) - 1 := by rw [i64_of]; exact pk_sub_toInt (b := 1) (by omega) (by decide)
      refine ⟨fun z => absurd ((nI_eq (b := 99999) (by omega) (by decide)).mp z) (by omega), fun _ => in_spec (fun _ => b_yes' ?_) (fun z => absurd ((in_0n (m := dep (bfs n w s) tt) (by omega) _ _ ei).mpr (fun y => y.elim (fun y => nI_pos (by omega) y) (fun y => nI_ge hi (by omega) y))) z)⟩
      refine code_spec (hg.2.pz hn6) hN.2.2.1 ?_
      generalize hLL : bfs n w s = L at *
      have top : ∃ p, L[upL L (dep L tt) tt]? = some p ∧ p.1 = s := by
        obtain ⟨a1, a2⟩ := upL_spec hB htl (dep L tt) (Nat.le_refl _)
        have hp := List.getElem?_eq_getElem a1
        have z : upL L (dep L tt) tt = 0 := by
          rcases Nat.eq_zero_or_pos (upL L (dep L tt) tt) with z | z
          · exact z
          · rw [dep_pos hB hp z] at a2; omega
        rw [z]
        exact ⟨_, hB.1, rfl⟩
      refine kc7 (i + 1) (fun j x16 x17 v18 v19 v20 _ _ => x17 = nI j ∧ (∃ p, L[upL L (dep L tt - j) tt]? = some p ∧ x16 = nI (codeN p.1)) ∧ (j = i + 1 → v18 = nI f0 ∧ v19 = nI q0.1 ∧ v20 = nI q0.2)) ⟨rfl, ?_, fun z => by omega⟩ ?_
      · obtain ⟨p, a1, a2⟩ := top
        exact ⟨p, a1, by rw [a2]⟩
      · rintro j x16 x17 v18 v19 v20 f21 f22 K hj ⟨rfl, ⟨p, hp, rfl⟩, hlast⟩ hK
        refine pk_lt i j (fun c => ?_) (fun c => ?_)
        · obtain ⟨rfl, rfl, rfl⟩ := hlast (by omega)
          refine ⟨fun c0 => ⟨fun c1 => ⟨?_, hfin⟩, fun c1 => ⟨?_, hfin⟩⟩, fun c0 => ⟨?_, hfin⟩⟩
          · rw [if_neg (fun z => c0 (by rw [z]; rfl)), if_neg (fun z => c1 (by rw [z]; rfl))]
          · have : q = 1 := (nI_eq (b := 1) (by omega) (by decide)).mp c1
            rw [this, if_neg (by decide), if_pos rfl]
          · have : q = 0 := (nI_eq (b := 0) (by omega) (by decide)).mp c0
            rw [this, if_pos rfl]
        · obtain ⟨hxg, hxk⟩ := hG.2 _ (List.mem_of_getElem? hp)
          have hxz := hxg.2.pz hxg.1
          refine lay_spec hxz (lay_ok hN hxg hxk) (fun f26 h26 => ?_)
          obtain ⟨w1, w2⟩ := upL_spec hB htl (dep L tt - j - 1) (by omega)
          have he' : L[upL L (dep L tt - j - 1) tt]? = some L[upL L (dep L tt - j - 1) tt] := List.getElem?_eq_getElem w1
          have hp' : L[upL L (dep L tt - j - 1 + 1) tt]? = some p := by rw [show dep L tt - j - 1 + 1 = dep L tt - j by omega]; exact hp
          obtain ⟨fa, qa, hma, ea, hfa, hua⟩ := way_step hB hF ht (by omega) (by omega) hp' he'
          have el : (nI (dep L tt) - nI j) - (1 : Int32) = nI (dep L tt - j - 1) := by
            rw [pk_sub (by omega), show (1 : Int32) = nI 1 from rfl, pk_sub (by omega)]
          rw [el]
          refine findStep_spec hxg hr h26 hN.2.2.2.1 ⟨fa, qa, hma, hfa⟩ (fun f' q' g' hbest => ?_)
          obtain ⟨rfl, rfl⟩ := hua f' q' hbest
          have g1 := mv_ok hxg hma
          refine behind_spec (g1.2.pz g1.1) hma h26 (fun g'' x33 e33 => hK (by omega) ⟨by rw [e33, nI_1], ⟨L[upL L (dep L tt - j - 1) tt], ?_, ?_⟩, fun ej => ?_⟩)
          · rw [show dep L tt - (j + 1) = dep L tt - j - 1 by omega]; exact he'
          · rw [ea]; rfl
          · have ji : j = i := by omega
            subst ji
            have e5 : L[upL L (dep L tt - j - 1) tt] = e := by
              rw [show dep L tt - 1 - j = dep L tt - j - 1 by omega] at he
              exact Option.some.inj (he'.symm.trans he)
            have e6 := ea.symm.trans (e5.trans h4)
            exact ⟨congrArg (fun z : Met1 => nI z.2.2.1) e6, congrArg (fun z : Met1 => nI z.2.2.2.1) e6, congrArg (fun z : Met1 => nI z.2.2.2.2) e6⟩
