/-! PURE ROWS: the reference's row of all states -/
def RowM (L : List Met1) (rows : Int32) (was row : Nat → Int32) : Prop := rows = nI L.length ∧ (∀ i e, L[i]? = some e → row i = nI (codeN e.1)) ∧ ∀ c, c < 3969 → was c = if (L.any fun e => codeN e.1 == c) then 1 else 0
theorem any_code {L : List Met1} {c : Nat} : (L.any fun e => codeN e.1 == c) = true ↔ ∃ e ∈ L, codeN e.1 = c := by
  rw [List.any_eq_true]
  constructor
  · rintro ⟨e, h1, h2⟩; exact ⟨e, h1, eq_of_beq h2⟩
  · rintro ⟨e, h1, h2⟩; exact ⟨e, h1, by rw [h2]; exact beq_self_eq_true c⟩
section GO
variable {n r : Nat} {w b : Nat → Nat} {s0 : List Nat} {L : List Met1}
theorem come_spec (hG : Gd n r w b s0 L) {rows : Int32} {was row : Nat → Int32} (hR : RowM L rows was row) {e : Met1} (he : StG n r b e.1) (hk : Kin w s0 e.1) {P : Int32 → (Nat → Int32) → (Nat → Int32) → Prop} (hP : ∀ v f g, RowM (meetA L e) v f g → P v f g) : wp_X11_come (nI (codeN e.1)) rows was row P := by
  have hlen := hG.len
  have hc := codeN_lt (he.2.pz he.1)
  have hR0 := hR
  obtain ⟨rfl, hrow, hwas⟩ := hR
  unfold wp_X11_come
  rw [nI_clamp (by omega), hwas _ hc]
  refine ⟨vp_in_nI hc (by decide), ?_⟩
  by_cases c : ∃ x ∈ L, x.1 = e.1
  · have : (L.any fun x => codeN x.1 == codeN e.1) = true := any_code.mpr (by obtain ⟨x, h1, h2⟩ := c; exact ⟨x, h1, by rw [h2]⟩)
    rw [this, if_pos rfl]
    refine b_yes' (hP _ _ _ ?_)
    rw [meetA_old c]; exact hR0
  · have : (L.any fun x => codeN x.1 == codeN e.1) = false := by
      cases z : (L.any fun x => codeN x.1 == codeN e.1) with
      | false => rfl
      | true =>
        obtain ⟨x, h1, h2⟩ := any_code.mp z
        exact absurd ⟨x, h1, codeN_inj (hG.2 x h1).1 he (hG.2 x h1).2 hk h2⟩ c
    rw [this, if_neg (by decide)]
    refine b_no' ⟨vp_in_nI hc (by decide), fun f4 e4 => ⟨vp_in_nI (by omega) (by decide), fun f6 e6 x7 e7 => hP _ _ _ ?_⟩⟩
    rw [show vp_nar .boolean (1 : Int32) = 1 from by decide] at e4
    rw [nI_clamp (by omega)] at e6
    rw [meetA_new c]
    refine ⟨by rw [e7, nI_1, List.length_append]; rfl, fun i x hi => ?_, fun q hq => ?_⟩
    · rw [e6]
      by_cases ci : i < L.length
      · rw [List.getElem?_append_left ci] at hi
        rw [pk_un (by omega)]
        exact hrow i x hi
      · have ei : i = L.length := by
          have := (List.getElem?_eq_some_iff.mp hi).1
          rw [List.length_append, List.length_singleton] at this
          omega
        subst ei
        rw [List.getElem?_append_right (Nat.le_refl _), Nat.sub_self] at hi
        cases hi
        rw [pk_us]
    · rw [e4, List.any_append, List.any_cons, List.any_nil, Bool.or_false]
      by_cases cq : q = codeN e.1
      · subst cq
        rw [pk_us, show (codeN e.1 == codeN e.1) = true from beq_self_eq_true _, Bool.or_true, if_pos rfl]
      · rw [pk_un cq, hwas q hq, show (codeN e.1 == q) = false from by simpa using Ne.symm cq, Bool.or_false]
def inG (me x : Nat) (l : List Nat) : List (Nat × Nat) := (l.filter fun y => pop6 y == pop6 x).map fun y => (x, y)
def outG (me : Nat) (l : List Nat) : List (Nat × Nat) := l.flatMap fun x => inG me x (subs me)
theorem outG_pairs (ml me : Nat) : pairs ml me = outG me (subs ml) := rfl
theorem outG_cons (me x : Nat) (l : List Nat) : outG me (x :: l) = inG me x (subs me) ++ outG me l := List.flatMap_cons
theorem inG_no (me x y : Nat) (l : List Nat) (h : ¬ pop6 x = pop6 y) : inG me x (y :: l) = inG me x l := by
  unfold inG
  rw [List.filter_cons_of_neg (by simpa using fun z => h z.symm)]
theorem inG_yes (me x y : Nat) (l : List Nat) (h : pop6 x = pop6 y) : inG me x (y :: l) = (x, y) :: inG me x l := by
  unfold inG
  rw [List.filter_cons_of_pos (by simpa using h.symm)]; rfl
theorem comeBy_spec {i f : Nat} {s : List Nat} (hg : StG n r b s) (hk : Kin w s0 s) (hf : f < n) (hG : Gd n r w b s0 L) {rows : Int32} {was row before now : Nat → Int32} (hR : RowM L rows was row) (hnow : ∀ k, k < 6 → now k = nI (pz s k))
    {P : Int32 → (Nat → Int32) → (Nat → Int32) → (Nat → Int32) → Prop} (hP : ∀ v f1 f2 f3, Gd n r w b s0 (spreadF w i s L f) → RowM (spreadF w i s L f) v f2 f3 → P v f1 f2 f3) : wp_X11_comeBy (nI f) (nI (outM w s f)) (nI (inM s f)) rows before now was row P := by
  have h1 := outM_lt w s f
  have h2 := inM_lt s f
  have hall := pairs_mv (n := n) (w := w) (s := s) hf
  rw [spreadF_fm] at hP
  rw [outG_pairs] at hP hall
  unfold wp_X11_comeBy
  refine next0 h1 ?_
  refine kr5 (subs (outM w s f)) (fun l x v g1 g2 g3 => ∃ Lc, x = nI (l.headD 0) ∧ NxC (outM w s f) l ∧ Gd n r w b s0 Lc ∧ RowM Lc v g2 g3 ∧ (∀ q ∈ outG (inM s f) l, mv n w s f q) ∧ fm Lc ((outG (inM s f) l).map (mkE s i f)) = fm L ((outG (inM s f) (subs (outM w s f))).map (mkE s i f))) ⟨L, rfl, (subs_chain h1).1, hG, hR, hall, rfl⟩ ?_ ?_
  · rintro x v g1 g2 g3 K ⟨Lc, rfl, -, hGc, hRc, -, hfm⟩
    have hfm : Lc = _ := hfm
    subst hfm
    exact b_no (hP _ _ _ _ hGc hRc)
  · rintro x l _ v g1 g2 g3 K ⟨Lc, rfl, hx, hGc, hRc, hmv, hfm⟩ hK
    refine ⟨fun z => absurd z (nz64 hx.2.1 hx.1), fun _ => next0 h2 ?_⟩
    rw [outG_cons] at hmv hfm
    refine kr5 (subs (inM s f)) (fun l2 y v g1 g2 g3 => ∃ Lc, y = nI (l2.headD 0) ∧ NxC (inM s f) l2 ∧ Gd n r w b s0 Lc ∧ RowM Lc v g2 g3 ∧ (∀ q ∈ inG (inM s f) x l2 ++ outG (inM s f) l, mv n w s f q) ∧ fm Lc ((inG (inM s f) x l2 ++ outG (inM s f) l).map (mkE s i f)) = fm L ((outG (inM s f) (subs (outM w s f))).map (mkE s i f))) ⟨Lc, rfl, (subs_chain h2).1, hGc, hRc, hmv, hfm⟩ ?_ ?_
    · rintro y v g1 g2 g3 K2 ⟨Lc, rfl, -, hGc, hRc, hmv, hfm⟩
      exact b_no (nextS h1 hx (hK ⟨Lc, rfl, hx.2.2.2, hGc, hRc, hmv, hfm⟩))
    · rintro y l2 _ v g1 g2 g3 K2 ⟨Lc, rfl, hy, hGc, hRc, hmv, hfm⟩ hK2
      refine ⟨fun z => absurd z (nz64 hy.2.1 hy.1), fun _ => many_spec hx.2.1 (many_spec hy.2.1 ?_)⟩
      have px := pop_le x
      have py := pop_le y
      refine pk_ne (pop6 x) (pop6 y) (fun c => ?_) (fun c => nextS h2 hy (hK2 ⟨Lc, rfl, hy.2.2.2, hGc, hRc, ?_, ?_⟩))
      · rw [inG_yes _ _ _ _ c, List.cons_append] at hmv hfm
        have hm := hmv (x, y) List.mem_cons_self
        obtain ⟨g1', g2'⟩ := mkE_ok (i := i) hg hk hm
        refine behind_spec (q := (x, y)) (g1'.2.pz g1'.1) hm hnow (fun g => come_spec (e := mkE s i f (x, y)) hGc hRc g1' g2' (fun v' f' g' hR2 => nextS h2 hy (hK2 ⟨_, rfl, hy.2.2.2, hGc.meet g1' g2', hR2, fun q hq => hmv q (List.mem_cons_of_mem _ hq), hfm⟩)))
      · rw [inG_no _ _ _ _ c] at hmv; exact hmv
      · rw [inG_no _ _ _ _ c] at hfm; exact hfm
/-- where all are: what the reference's cells say while it looks at other states -/
def NowOk (n r : Nat) (w b : Nat → Nat) (s : List Nat) (mat mw ms : Nat → Int32) : Prop := StG n r b s ∧ r ≤ 4 ∧ (∀ k, k < 6 → mat k = nI (pz s k)) ∧ (∀ k, k < r → mw k = nI (w k) ∧ w k < n) ∧ ∀ k, k < r → b k < n → ms k = nI (b k)
theorem lay_ok {s s' : List Nat} {mat mw ms : Nat → Int32} (hN : NowOk n r w b s mat mw ms) (hg : StG n r b s') (hk : Kin w s s') : LayOk s' mat ms := by
  obtain ⟨h1, hr, hat, -, hms⟩ := hN
  have hz := h1.2.pz h1.1
  have hz' := hg.2.pz hg.1
  intro k hk6
  have i8 : pz s k = 8 ↔ pz s' k = 8 := by
    by_cases c : k < 4
    · by_cases c2 : k < r
      · have a : pz s k ≠ 8 := by
          have hn6 := h1.1
          rcases h1.2.2.1 k c c2 with ⟨q, q2⟩ | q | q <;> omega
        have a' : pz s' k ≠ 8 := by
          have hn6 := h1.1
          rcases hg.2.2.1 k c c2 with ⟨q, q2⟩ | q | q <;> omega
        exact ⟨fun z => absurd z a, fun z => absurd z a'⟩
      · exact ⟨fun _ => hg.2.2.2.1 k c (by omega), fun _ => h1.2.2.2.1 k c (by omega)⟩
    · exact hk.2.2 k (by omega) hk6
  refine ⟨?_, fun c h6 => ?_⟩
  · rw [hat k hk6, ← i8]
    exact nI_eq (b := 8) (by have := (hz.2 k hk6).1; omega) (by decide)
  · by_cases c2 : k < r
    · rcases hg.2.2.1 k c c2 with ⟨q, q2⟩ | q | q
      · rw [q]; exact hms k c2 q2
      · omega
      · omega
    · have := hg.2.2.2.1 k c (by omega); omega
theorem goAll_spec {s : List Nat} {mat mw ms was row now before : Nat → Int32} (hN : NowOk n r w b s mat mw ms) {P : Int32 → (Nat → Int32) → (Nat → Int32) → (Nat → Int32) → (Nat → Int32) → Prop}
    (hP : ∀ v f g h1 h2, Gd n r w b s (bfs n w s) → RowM (bfs n w s) v f g → P v f g h1 h2) : wp_X11_goAll (nI n) was mat row now ms mw before P := by
  have hN0 := hN
  obtain ⟨hg, hr, hat, hw, hms⟩ := hN
  have hn6 := hg.1
  unfold wp_X11_goAll
  refine kc2 3969 (fun j x f => x = nI j ∧ ∀ c, c < j → f c = 0) ⟨rfl, fun c h => absurd h (Nat.not_lt_zero c)⟩ ?_
  rintro j x f K hj ⟨rfl, hz⟩ hK
  refine pk_le 3969 j (fun c => ?_) (fun c => ⟨vp_in_nI c (by decide), fun f32 e32 x33 e33 => hK c ⟨by rw [e33, nI_1], fun q hq => ?_⟩⟩)
  rotate_left
  · rw [nI_clamp (by omega), show vp_nar .boolean (0 : Int32) = 0 from by decide] at e32
    rw [e32]
    by_cases e : q = j
    · subst e; rw [pk_us]
    · rw [pk_un e]; exact hz q (by omega)
  have e : j = 3969 := by omega
  subst e
  have hR0 : RowM [] 0 f row := ⟨rfl, fun i e h => by simp at h, fun c hc => by rw [hz c hc]; rfl⟩
  refine code_spec (hg.2.pz hn6) hat (come_spec (e := (s, 0, 0, 0, 0)) (Gd.nil (w := w) (s0 := s)) hR0 hg (Kin.rf w s) (fun v5 f6 f7 hR => ?_))
  have hG0 := (Gd.nil (n := n) (r := r) (w := w) (b := b) (s0 := s)).meet (e := (s, 0, 0, 0, 0)) hg (Kin.rf w s)
  have e0 : meetA [] (s, 0, 0, 0, 0) = [(s, 0, 0, 0, 0)] := meetA_new (fun ⟨x, hx, _⟩ => absurd hx List.not_mem_nil)
  rw [e0] at hR hG0
  clear hK
  refine kc6 128 (fun j x8 v9 f10 f11 _ _ => ∃ L, x8 = nI j ∧ Gd n r w b s L ∧ RowM L v9 f10 f11 ∧ bfsA n w (128 - j) j L = bfs n w s) ⟨_, rfl, hG0, hR, rfl⟩ ?_
  rintro j x8 v9 f10 f11 f12 f13 K hj ⟨L, rfl, hG, hR, hb⟩ hK
  have hlen := hG.len
  have hv := hR.1
  subst hv
  refine pk_le L.length j (fun c => ?_) (fun c => ⟨vp_in_nI (by omega) (by decide), ?_⟩)
  · have : bfsA n w (128 - j) j L = L := by
      cases 128 - j with
      | zero => rfl
      | succ k => exact if_neg (by omega)
    rw [← hb, this] at hP
    exact hP _ _ _ _ _ hG hR
  · have hp0 : L[j]? = some L[j] := List.getElem?_eq_getElem c
    have hgd : (L.getD j ([], 0, 0, 0, 0)).1 = L[j].1 := by rw [List.getD_eq_getElem?_getD, hp0]; rfl
    obtain ⟨hxg, hxk⟩ := hG.2 _ (List.mem_of_getElem? hp0)
    rw [show 128 - j = (128 - (j + 1)) + 1 by omega] at hb
    unfold bfsA at hb
    rw [if_pos c] at hb
    rw [nI_clamp (by omega), hR.2.1 j _ hp0]
    refine lay_spec (hxg.2.pz hxg.1) (lay_ok hN0 hxg hxk) (fun f16 h16 => ?_)
    refine kc5 n (fun g x17 v18 f19 f20 _ => ∃ Lc, x17 = nI g ∧ Gd n r w b s Lc ∧ RowM Lc v18 f19 f20 ∧ (List.range g).foldl (spreadF w j L[j].1) L = Lc) ⟨L, rfl, hG, hR, rfl⟩ ?_
    rintro g x17 v18 f19 f20 f21 K2 hgn ⟨Lc, rfl, hGc, hRc, hfc⟩ hK2
    refine pk_le n g (fun c3 x23 e23 => ?_) (fun c3 => mayOf_spec hxg hr (by omega) h16 hw ?_)
    · have eg : g = n := by omega
      subst eg
      refine hK (by omega) ⟨Lc, by rw [e23, nI_1], hGc, hRc, ?_⟩
      rw [← hb]
      unfold spreadA
      rw [hgd, hfc]
    · rw [if_neg (by decide)]
      refine mayOf_spec hxg hr (by omega) h16 hw ?_
      rw [if_pos rfl]
      refine comeBy_spec (i := j) hxg hxk c3 hGc hRc h16 (fun v f1 f2 f3 hG2 hR2 x30 e30 => hK2 c3 ⟨_, by rw [e30, nI_1], hG2, hR2, ?_⟩)
      rw [List.range_succ, List.foldl_append, hfc]; rfl
end GO
