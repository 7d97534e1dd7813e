/-! PURE ROWS: ways, by then: both counts -/
section WAYS2
variable {n r : Nat} {w b : Nat → Nat} {s0 : List Nat} {L : List Met1} {sz : Int32} {st cf hl : Nat → Int32} {wa sa : Nat → Int32}
/-- what is seen, in both -/
def SeenOk (m : Nat) (SF SN : Nat → Nat) (sf sn : Nat → Int32) : Prop := m ≤ 8 ∧ ∀ i, i < m → SF i < 6 ∧ SN i < 7 ∧ sf i = nI (SF i) ∧ sn i = nI (SN i)
theorem sm_lt_succ {cd : Nat → Nat} {N c : Nat} (a : Nat → Nat) : fb_sm (fun i => if cd i < c + 1 then a i else 0) N = fb_sm (fun i => if cd i < c then a i else 0) N + fb_sm (fun i => if cd i = c then a i else 0) N := by
  rw [← fb_sm_add]
  refine fb_sm_cong (fun i _ => ?_)
  rcases Nat.lt_trichotomy (cd i) c with q | q | q
  · rw [if_pos (by omega), if_pos q, if_neg (by omega), Nat.add_zero]
  · rw [if_pos (by omega), if_neg (by omega), if_pos q, Nat.zero_add]
  · rw [if_neg (by omega), if_neg (by omega), if_neg (by omega)]
theorem count_spec (hG : Gd n r w b s0 L) (hc : ClosedL n w L) (h0 : 0 < L.length) (hs : SearchL L sz st cf hl) (hr : r ≤ 4) (hwa : ∀ f, f < 6 → wa f = nI (bits4 fun k => decide (k < r) && w k == f)) (hsa : ∀ f, f < 6 → sa f = nI (bits4 fun k => decide (k < r) && b k == f)) {m : Nat} {SF SN : Nat → Nat} {sf sn : Nat → Int32} (hS : SeenOk m SF SN sf sn)
    {rows next : Nat → Int64} {v1 v2 v3 v4 : Int32} {P : (Nat → Int64) → (Nat → Int64) → Int32 → Int32 → Int32 → Int32 → Prop} (hP : ∀ f g v1 v2 v3 v4, (∀ i, i < L.length → f i = lN (wysV w L SF SN m i)) → P f g v1 v2 v3 v4) :
    wp_X7_count (nI m) rows next sz st sf wa sa v1 v2 v3 v4 sn P := by
  have hlen := hG.len
  obtain ⟨hm8, hse⟩ := hS
  have hSF : ∀ j, j < m → SF j < 6 := fun j hj => (hse j hj).1
  unfold wp_X7_count
  refine fillL_spec (by decide) (fun f1 h1 => ?_)
  show wp_X10_put_ (nI 0) (lN 1) 128 f1 _
  refine putL_in (by decide) (by decide) ?_
  refine kc7 m (fun j x f4 _ _ _ _ _ => x = nI j ∧ ∀ i, i < L.length → f4 i = lN (wysV w L SF SN j i)) ⟨rfl, fun i hi => ?_⟩ ?_
  · show _ = lN (if i = 0 then 1 else 0)
    by_cases q : i = 0
    · subst q; rw [pk_uLs, if_pos rfl]
    · rw [pk_uLn q, if_neg q, h1 i (by omega)]; rfl
  rintro j x f4 f5 v6 v7 v8 v9 K hj ⟨rfl, h4⟩ hK
  refine pk_le m j (fun c => ?_) (fun c => fillL_spec (by decide) (fun f11 h11 => ?_))
  · have e : j = m := by omega
    subst e
    exact hP _ _ _ _ _ _ h4
  obtain ⟨s1, s2, s3, s4⟩ := hse j c
  refine kc6 L.length (fun i x g _ _ _ _ => x = nI i ∧ ∀ t, t < L.length → g t = lN (fb_sm (fun i => wysV w L SF SN j i * (tlL w L (SF j) (SN j) i).count t) i)) ⟨rfl, fun t ht => h11 t (by omega)⟩ ?_
  rintro i x g v14 v15 v16 v17 K2 hi ⟨rfl, hg⟩ hK2
  unfold wp_X6_size
  rw [hs.1]
  refine pk_le L.length i (fun c2 => ?_) (fun c2 => atL_in (by omega) (by decide) ?_)
  · have e : i = L.length := by omega
    subst e
    rw [ite_self, show (0 : Int32).toNatClampNeg = 0 from by decide, show (128 : Int32).toNatClampNeg = 128 from by decide]
    refine ⟨⟨by decide, by decide, by decide, by decide, by decide⟩, fun f21 e21 x22 e22 => hK c ⟨by rw [e22, nI_1], fun t ht => ?_⟩⟩
    rw [e21, pk_cpy_in (Nat.zero_le _) (by omega), show 0 + (t - 0) = t by omega, hg t ht]
    rfl
  · have hw63 := wys_lt hG (SN := SN) hm8 hSF (j := j) (i := i) (by omega) c2
    rw [h4 i c2]
    refine ⟨fun cz x25 e25 => hK2 c2 ⟨by rw [e25, nI_1], fun t ht => ?_⟩, fun cz => ?_⟩
    · rw [cmp_0 hw63] at cz
      rw [fb_sm_succ, cz, Nat.zero_mul, Nat.add_zero]
      exact hg t ht
    · rw [← hs.1]
      exact cspread_spec hG hc hs hr hwa hsa c2 (by omega) s1 s2 s3 s4 (W := wysV w L SF SN j) (V := fun t => fb_sm (fun i => wysV w L SF SN j i * (tlL w L (SF j) (SN j) i).count t) i) (A := fun t => fb_sm (fun i => wysV w L SF SN j i * (tlL w L (SF j) (SN j) i).count t) (i + 1)) (h4 i c2) hg (fun t _ => rfl) (fun v1 v2 v3 v4 g' hg' x31 e31 => hK2 c2 ⟨by rw [e31, nI_1], hg'⟩)
/-- whom one looks for behind the last halt -/
def brN (s : List Nat) : Nat := bits6 fun k => if k < 4 then pz s k == 7 else pz s k == 6
theorem brN_lt (s : List Nat) : brN s < 64 := bits6_lt _
theorem brought_spec {s : List Nat} (hz : PzOk s) {P : Int32 → Prop} (hP : P (nI (brN s))) : wp_X8_brought (nI (encS s)) P := by
  unfold wp_X8_brought
  refine done_enc hz ?_
  refine sa_enc (t := 7) hz (by decide) ?_
  rw [fa_or]
  have hA := bits4_lt (fun k => pz s k == 7)
  have e : bits4 (fun k => pz s k == 7) ||| (bN (plc (pz s 4) == 7) 16 + bN (plc (pz s 5) == 7) 32) = brN s := by
    apply tb_ext (n := 6) (or_lt4 hA _ _) (brN_lt s)
    intro k hk
    unfold brN
    rw [or_tb4 hA _ _ k hk, bits6_tb, bits4_tb]
    have q4 := plc_7 (pz s 4) (hz.2 4 (by decide)).1 ((hz.2 4 (by decide)).2 (by decide))
    have q5 := plc_7 (pz s 5) (hz.2 5 (by decide)).1 ((hz.2 5 (by decide)).2 (by decide))
    by_cases c : k < 4
    · simp [c, hk]
    · rcases (show k = 4 ∨ k = 5 by omega) with rfl | rfl
      · simp [q4]
      · simp [q5]
  rw [e]; exact hP
/-- the sum over all states in which some are where one looks for them -/
theorem crows_spec (hG : Gd n r w b s0 L) (hs : SearchL L sz st cf hl) {W : Nat → Nat} {rows : Nat → Int64} (hrow : ∀ i, i < L.length → rows i = lN (W i)) {p1 : Int32} {B : Nat → Bool} (hB : ∀ i, i < L.length → ((nI (brN (stL L i)) &&& p1 = p1) ↔ B i = true)) {P : Int64 → Prop} (hP : P (lN (fb_sm (fun i => if B i then W i else 0) L.length))) : wp_X7_rowsWith p1 sz st rows P := by
  have hlen := hG.len
  unfold wp_X7_rowsWith
  refine kc2 L.length (fun j x y => y = nI j ∧ x = lN (fb_sm (fun i => if B i then W i else 0) j)) ⟨rfl, rfl⟩ ?_
  rintro j x y K hj ⟨rfl, rfl⟩ hK
  unfold wp_X6_size wp_X6_stateAt
  rw [hs.1]
  refine pk_le L.length j (fun c => ?_) (fun c => at_in (by omega) (by decide) ?_)
  · have e : j = L.length := by omega
    subst e; exact hP
  · have hp : L[j]? = some L[j] := List.getElem?_eq_getElem c
    have hmem := hG.2 _ (List.mem_of_getElem? hp)
    have hb := hB j c
    rw [stL_at hp] at hb
    rw [(hs.2 j _ hp).1]
    refine brought_spec (hmem.1.2.pz hmem.1.1) ⟨fun cb x8 e8 x9 e9 => hK c ⟨by rw [e9, nI_1], ?_⟩, fun cb => atL_in (by omega) (by decide) (fun x11 e11 x12 e12 => hK c ⟨by rw [e12, nI_1], ?_⟩)⟩
    · rw [e8, lN_addz, fb_sm_succ, if_neg (fun z => cb (hb.mpr z)), Nat.add_zero]
    · rw [e11, hrow j c, lN_add, fb_sm_succ, if_pos (hb.mp cb)]
/-! the reference's -/
theorem in_outG_no {me k x : Nat} {l : List Nat} (h : ¬ pop6 x = k) (rest : List (Nat × Nat)) : ((inG me x l ++ rest).filter fun q => pop6 q.1 == k) = rest.filter fun q => pop6 q.1 == k := by
  rw [List.filter_append]
  have : ((inG me x l).filter fun q => pop6 q.1 == k) = [] := by
    rw [List.filter_eq_nil_iff]
    intro q hq
    unfold inG at hq
    obtain ⟨y, -, rfl⟩ := List.mem_map.mp hq
    simpa using h
  rw [this, List.nil_append]
theorem addB_spec {s : List Nat} (hg : StG n r b s) (hr : r ≤ 4) {f k : Nat} (hf : f < 6) (hk : k < 7) {before now mw : Nat → Int32} {then_ : Nat → Int64} (hnow : ∀ k, k < 6 → now k = nI (pz s k)) (hw : ∀ k, k < r → mw k = nI (w k) ∧ w k < n) {c0 : Nat} {A V : Nat → Nat} (hV : ∀ d, d < 3969 → then_ d = lN (V d))
    (hA : ∀ d, d < 3969 → V d + c0 * ((((pairs (outM w s f) (inM s f)).filter fun q => pop6 q.1 == k).map fun q => codeN (chg s f q.1 q.2)).count d) = A d) {P : (Nat → Int32) → (Nat → Int64) → Prop} (hP : ∀ u g, (∀ d, d < 3969 → g d = lN (A d)) → P u g) :
    wp_X11_addBehind (nI f) (nI k) (lN c0) now mw before then_ P := by
  have h1 := outM_lt w s f
  have h2 := inM_lt s f
  have hall := pairs_mv6 (w := w) hg hf
  unfold wp_X11_addBehind
  refine mayOf_spec hg hr hf hnow hw ?_
  rw [if_neg (by decide)]
  refine mayOf_spec hg hr hf hnow hw ?_
  rw [if_pos rfl]
  rw [outG_pairs] at hA hall
  refine next0 h1 ?_
  refine kr3 (subs (outM w s f)) (fun l x _ g => ∃ V : Nat → Nat, x = nI (l.headD 0) ∧ NxC (outM w s f) l ∧ (∀ q ∈ outG (inM s f) l, mv n w s f q) ∧ (∀ d, d < 3969 → g d = lN (V d)) ∧ ∀ d, d < 3969 → V d + c0 * ((((outG (inM s f) l).filter fun q => pop6 q.1 == k).map fun q => codeN (chg s f q.1 q.2)).count d) = A d) ⟨V, rfl, (subs_chain h1).1, hall, hV, hA⟩ ?_ ?_
  · rintro x u g K ⟨V, rfl, -, -, hV, hA⟩
    refine b_no (hP _ _ (fun d hd => ?_))
    have := hA d hd
    rw [show ((((outG (inM s f) []).filter fun q => pop6 q.1 == k).map fun q => codeN (chg s f q.1 q.2)).count d) = 0 from rfl, Nat.mul_zero, Nat.add_zero] at this
    rw [hV d hd, this]
  · rintro x l _ u g K ⟨V, rfl, hx, hmv, hV, hA⟩ hK
    refine ⟨fun z => absurd z (nz64 hx.2.1 hx.1), fun _ => next0 h2 ?_⟩
    rw [outG_cons] at hmv hA
    refine kr3 (subs (inM s f)) (fun l2 y _ g => ∃ V : Nat → Nat, y = nI (l2.headD 0) ∧ NxC (inM s f) l2 ∧ (∀ q ∈ inG (inM s f) x l2 ++ outG (inM s f) l, mv n w s f q) ∧ (∀ d, d < 3969 → g d = lN (V d)) ∧ ∀ d, d < 3969 → V d + c0 * ((((inG (inM s f) x l2 ++ outG (inM s f) l).filter fun q => pop6 q.1 == k).map fun q => codeN (chg s f q.1 q.2)).count d) = A d) ⟨V, rfl, (subs_chain h2).1, hmv, hV, hA⟩ ?_ ?_
    · rintro y u g K2 ⟨V, rfl, -, hmv, hV, hA⟩
      exact b_no (nextS h1 hx (hK ⟨V, rfl, hx.2.2.2, hmv, hV, hA⟩))
    · rintro y l2 _ u g K2 ⟨V, rfl, hy, hmv, hV, hA⟩ hK2
      have px := pop_le x
      have py := pop_le y
      refine ⟨fun z => absurd z (nz64 hy.2.1 hy.1), fun _ => many_spec hx.2.1 (pk_ne (pop6 x) k (fun cx => many_spec hy.2.1 (pk_ne (pop6 y) k (fun cy => ?_) (fun cy => nextS h2 hy (hK2 ⟨V, rfl, hy.2.2.2, ?_, hV, ?_⟩)))) (fun cx => nextS h1 hx (hK ⟨V, rfl, hx.2.2.2, fun q hq => hmv q (List.mem_append.mpr (Or.inr hq)), hV, fun d hd => ?_⟩)))⟩
      · rw [inG_yes _ _ _ _ (cx.trans cy.symm), List.cons_append] at hmv hA
        have hm := hmv (x, y) List.mem_cons_self
        have g1 := mv_ok hg hm
        have hz := g1.2.pz g1.1
        have hcl := codeN_lt hz
        refine behind_spec (q := (x, y)) hz hm hnow (fun u' => ⟨vp_in_nI hcl (by decide), ?_⟩)
        rw [nI_clamp (by omega)]
        rintro x23 rfl
        refine ⟨vp_in_nI hcl (by decide), ?_⟩
        rintro f25 rfl
        refine nextS h2 hy (hK2 ⟨setN V (codeN (chg s f x y)) (V (codeN (chg s f x y)) + c0), rfl, hy.2.2.2, fun q hq => hmv q (List.mem_cons_of_mem _ hq), fun d hd => ?_, fun d hd => ?_⟩)
        · by_cases q : d = codeN (chg s f x y)
          · rw [← q, pk_uLs, setN_eq, hV d hd, lN_add]
          · rw [pk_uLn q, setN_ne _ _ q]; exact hV d hd
        · have := hA d hd
          rw [List.filter_cons_of_pos (by simpa using cx), List.map_cons, List.count_cons] at this
          by_cases q : d = codeN (chg s f x y)
          · rw [if_pos (by simpa using q.symm), Nat.mul_add, Nat.mul_one] at this
            rw [← q, setN_eq]; omega
          · rw [if_neg (by simpa using Ne.symm q), Nat.add_zero] at this
            rw [setN_ne _ _ q]; exact this
      · rw [inG_no _ _ _ _ (fun z => cy (z.symm.trans cx))] at hmv; exact hmv
      · rw [inG_no _ _ _ _ (fun z => cy (z.symm.trans cx))] at hA; exact hA
      · have := hA d hd
        rw [in_outG_no cx] at this
        exact this
theorem layWays_spec {s : List Nat} {mat mw ms now before : Nat → Int32} {ways then_ : Nat → Int64} (hN : NowOk n r w b s mat mw ms) (hG : Gd n r w b s L) (hc : ClosedL n w L) (h0 : L[0]? = some (s, 0, 0, 0, 0)) {m : Nat} {SF SN : Nat → Nat} {sf sn : Nat → Int32} (hS : SeenOk m SF SN sf sn)
    {P : (Nat → Int64) → (Nat → Int64) → (Nat → Int32) → (Nat → Int32) → Prop} (hP : ∀ f g u v, (∀ c, c < 3969 → f c = lN (vvL L (wysV w L SF SN m) c)) → P f g u v) : wp_X11_layWays (nI m) mat ways then_ now ms sf sn mw before P := by
  have hlen := hG.len
  obtain ⟨hg, hr, hat, hw, hms⟩ := id hN
  have hz := hg.2.pz hg.1
  obtain ⟨hm8, hse⟩ := hS
  have hSF : ∀ j, j < m → SF j < 6 := fun j hj => (hse j hj).1
  have hinj := cd_inj hG
  have hl0 : 0 < L.length := (List.getElem?_eq_some_iff.mp h0).1
  have cdlt : ∀ i, i < L.length → cdL L i < 3969 := by
    intro i hi
    have hp : L[i]? = some L[i] := List.getElem?_eq_getElem hi
    have hx := hG.2 _ (List.mem_of_getElem? hp)
    unfold cdL
    rw [stL_at hp]
    exact codeN_lt (hx.1.2.pz hx.1.1)
  unfold wp_X11_layWays
  refine clearL (fun f1 h1 => code_spec hz hat ?_)
  have hcs := codeN_lt hz
  rw [nI_clamp (by omega)]
  refine ⟨vp_in_nI hcs (by decide), ?_⟩
  rintro f6 rfl
  refine kc5 m (fun j x f8 _ _ _ => x = nI j ∧ ∀ c, c < 3969 → f8 c = lN (vvL L (wysV w L SF SN j) c)) ⟨rfl, fun c hc3 => ?_⟩ ?_
  · have c0 : cdL L 0 = codeN s := by unfold cdL; rw [stL_at h0]
    by_cases q : c = codeN s
    · subst q
      rw [pk_uLs]
      unfold vvL
      rw [sm_one _ hinj hl0 c0]
      show (1 : Int64) = lN (if 0 = 0 then 1 else 0)
      rw [if_pos rfl]; rfl
    · rw [pk_uLn q, h1 c hc3]
      unfold vvL
      rw [sm_none]
      · rfl
      · intro i hi e
        show (if i = 0 then 1 else 0) = 0
        rw [if_neg]
        rintro rfl
        exact q (e.symm.trans c0)
  rintro j x f8 f9 f10 f11 K hj ⟨rfl, h8⟩ hK
  refine pk_le m j (fun c => ?_) (fun c => clearL (fun f14 h14 => ?_))
  · have e : j = m := by omega
    subst e
    exact hP _ _ _ _ h8
  obtain ⟨s1, s2, s3, s4⟩ := hse j c
  refine kc4 3969 (fun i x g _ _ => x = nI i ∧ ∀ d, d < 3969 → g d = lN (fb_sm (fun t => if cdL L t < i then wysV w L SF SN j t * ((tlL w L (SF j) (SN j) t).map (cdL L)).count d else 0) L.length)) ⟨rfl, fun d hd => ?_⟩ ?_
  · have e : fb_sm (fun t => if cdL L t < 0 then wysV w L SF SN j t * ((tlL w L (SF j) (SN j) t).map (cdL L)).count d else 0) L.length = 0 := by
      exact (fb_sm_cong (g := fun _ => 0) (fun t _ => if_neg (Nat.not_lt_zero _))).trans (sm_zero L.length)
    rw [e, h14 d hd]; rfl
  rintro i x g f18 f19 K2 hi ⟨rfl, hgd⟩ hK2
  refine pk_le 3969 i (fun c2 => copyL (fun f22 h22 x24 e24 => hK c ⟨by rw [e24, nI_1], fun d hd => ?_⟩)) (fun c2 => ⟨vp_in_nI c2 (by decide), ?_⟩)
  · have e : i = 3969 := by omega
    subst e
    rw [h22 d hd, hgd d hd]
    congr 1
    have e2 := vv_step hG hc (k := SN j) s1 (wysV w L SF SN j) d
    rw [show vvL L (wysV w L SF SN (j + 1)) d = vvL L (stpV w L (SF j) (SN j) (wysV w L SF SN j)) d from rfl, e2]
    exact fb_sm_cong (fun t ht => if_pos (cdlt t ht))
  · have hv63 := vv_lt hG (SN := SN) hm8 hSF (j := j) (c := i) (by omega)
    rw [nI_clamp (by omega), h8 i c2]
    have succ := fun d => sm_lt_succ (cd := cdL L) (N := L.length) (c := i) (fun t => wysV w L SF SN j t * ((tlL w L (SF j) (SN j) t).map (cdL L)).count d)
    refine ⟨fun cz x32 e32 => hK2 c2 ⟨by rw [e32, nI_1], fun d hd => ?_⟩, fun cz => ?_⟩
    · rw [cmp_le0 hv63] at cz
      rw [hgd d hd, succ d, sm_none, Nat.add_zero]
      intro t ht e
      have h := sm_one (wysV w L SF SN j) hinj ht e
      have : wysV w L SF SN j t = 0 := by rw [← h]; exact cz
      rw [this, Nat.zero_mul]
    · rw [cmp_le0 hv63] at cz
      have ex : ∃ t, t < L.length ∧ cdL L t = i := by
        apply Classical.byContradiction
        intro no
        exact cz (sm_none _ (fun t ht e => absurd ⟨t, ht, e⟩ no))
      obtain ⟨t, ht, et⟩ := ex
      have hp : L[t]? = some L[t] := List.getElem?_eq_getElem ht
      obtain ⟨hxg, hxk⟩ := hG.2 _ (List.mem_of_getElem? hp)
      have est := stL_at hp
      have ei : i = codeN L[t].1 := by rw [← et]; unfold cdL; rw [est]
      have hvt : vvL L (wysV w L SF SN j) i = wysV w L SF SN j t := sm_one _ hinj ht et
      have hml := tl_map hG hc (k := SN j) s1 ht
      rw [est] at hml
      rw [show nI i = nI (codeN L[t].1) by rw [← ei]]
      refine lay_spec (hxg.2.pz hxg.1) (lay_ok hN hxg hxk) (fun f33 h33 => ⟨vp_in_nI (by omega) (by decide), vp_in_nI (by omega) (by decide), vp_in_nI (by rw [← ei]; exact c2) (by decide), ?_⟩)
      rw [nI_clamp (by omega), s3, s4, hvt]
      refine addB_spec hxg hr s1 s2 h33 hw (c0 := wysV w L SF SN j t) (V := fun d => fb_sm (fun t => if cdL L t < i then wysV w L SF SN j t * ((tlL w L (SF j) (SN j) t).map (cdL L)).count d else 0) L.length) (A := fun d => fb_sm (fun t => if cdL L t < i + 1 then wysV w L SF SN j t * ((tlL w L (SF j) (SN j) t).map (cdL L)).count d else 0) L.length) hgd (fun d hd => ?_) (fun u g' hg' x39 e39 => hK2 c2 ⟨by rw [e39, ← ei, nI_1], hg'⟩)
      rw [succ d, sm_one _ hinj ht et, hml]
end WAYS2
theorem s_ways_sum {n r : Nat} {w b : Nat → Nat} {s0 : List Nat} {L : List Met1} (hG : Gd n r w b s0 L) (W : Nat → Nat) (B : Nat → Bool) (hB : ∀ i, i < L.length → B i = true) (cdlt : ∀ i, i < L.length → cdL L i < 3969) : fb_sm (vvL L W) 3969 = fb_sm (fun i => if B i then W i else 0) L.length := by
  have e : fb_sm (vvL L W) 3969 = fb_sm (fun c => fb_sm (fun i => if cdL L i = c then W i else 0) L.length) 3969 := rfl
  rw [e, sm_swap (fun c i => if cdL L i = c then W i else 0)]
  refine fb_sm_cong (fun i hi => ?_)
  rw [if_pos (hB i hi)]
  have h := sm_pick (cdL L i) (W i) 3969
  rw [if_pos (cdlt i hi)] at h
  refine Eq.trans (fb_sm_cong (g := fun c => if c = cdL L i then W i else 0) (fun c _ => ?_)) h
  by_cases q : cdL L i = c
  · rw [if_pos q, if_pos q.symm]
  · rw [if_neg q, if_neg (fun z => q z.symm)]
theorem cd_lt {n r : Nat} {w b : Nat → Nat} {s0 : List Nat} {L : List Met1} (hG : Gd n r w b s0 L) : ∀ i, i < L.length → cdL L i < 3969 := by
  intro i hi
  have hp : L[i]? = some L[i] := List.getElem?_eq_getElem hi
  have hx := hG.2 _ (List.mem_of_getElem? hp)
  unfold cdL
  rw [stL_at hp]
  exact codeN_lt (hx.1.2.pz hx.1.1)
theorem RE.ok {sz : Int32} {sf sn : Nat → Int32} {mz : Int32} {mf mn : Nat → Int32} (h : RE sz sf sn mz mf mn) : ∃ (m : Nat) (SF SN : Nat → Nat), sz = nI m ∧ mz = nI m ∧ SeenOk m SF SN sf sn ∧ SeenOk m SF SN mf mn := by
  obtain ⟨k, SF, SN, hk, e1, e2, hi⟩ := h
  refine ⟨k, SF, SN, e1, e2, ⟨hk, fun i h => ?_⟩, hk, fun i h => ?_⟩
  · obtain ⟨a, b1, b2, c, d, e, f⟩ := hi i h
    exact ⟨a, by omega, c, e⟩
  · obtain ⟨a, b1, b2, c, d, e, f⟩ := hi i h
    exact ⟨a, by omega, d, f⟩
theorem s_ways : S_ways := by
  intro sea lst ssz fl sst scf shl lf lwa lsa v1 v2 v3 v4 esz rows next esf x1 x2 x3 x4 esn mse mat ways then_ now ms msf msn mw before lr lt lsz lw ls lrow mf mr mt mho mfl mh mmade hD hE
  obtain ⟨n, r, t, h, w, b, HF, HO, HI, s, hC, hS⟩ := hD
  obtain ⟨hg, hr, elf, em, er, emr, elst, hwa, hsa⟩ := hC.st
  obtain ⟨m, SF, SN, rfl, rfl, hse, hme⟩ := hE.ok
  have hG := bfs_gd (w := w) hg
  have hlen := hG.len
  have hB := bfs_spec hlen
  have hl0 : 0 < (bfs n w s).length := (List.getElem?_eq_some_iff.mp hB.1).1
  unfold wp_X10_ways wp_X10_rowsWith
  refine searchAll_spec hC hS (fun sz fl st cf hl v1 v2 v3 v4 hL => ?_)
  refine count_spec hG hB.cl hl0 hL hr hwa hsa hse (fun f g v1 v2 v3 v4 hf => ?_)
  refine crows_spec hG hL hf (B := fun _ => true) (fun i _ => ⟨fun _ => rfl, fun _ => ?_⟩) ?_
  · show nI (brN (stL (bfs n w s) i)) &&& nI 0 = nI 0
    rw [fa_and, Nat.and_zero]
  unfold wp_X11_ways
  refine layWays_spec hC.now hG hB.cl hB.1 hme (fun f' g' u v hf' => ?_)
  refine kc2 3969 (fun j x y => y = nI j ∧ x = lN (fb_sm (vvL (bfs n w s) (wysV w (bfs n w s) SF SN m)) j)) ⟨rfl, rfl⟩ ?_
  rintro j x y K hj ⟨rfl, rfl⟩ hK
  refine pk_le 3969 j (fun c => ?_) (fun c => ⟨vp_in_nI c (by decide), fun x9 e9 x10 e10 => hK c ⟨by rw [e10, nI_1], ?_⟩⟩)
  · have e : j = 3969 := by omega
    subst e
    refine ⟨?_, n, r, t, h, w, b, HF, HO, HI, s, hC, Or.inr ⟨rfl, hL⟩⟩
    rw [s_ways_sum hG _ (fun _ => true) (fun _ _ => rfl) (cd_lt hG)]
  · rw [e9, nI_clamp (by omega), hf' j c, lN_add]; rfl
theorem bit_one : ∀ A, A < 64 → ∀ k, k < 6 → ((nI A &&& ((1 : Int32) <<< (nI k &&& 31))) = ((1 : Int32) <<< (nI k &&& 31)) ↔ A.testBit k = true) := by decide +kernel
theorem s_byThen : S_byThen := by
  intro p0 sea lst lf lr lt ssz fl sst scf shl lwa lsa v1 v2 v3 v4 esz rows next esf x1 x2 x3 x4 esn mse mat ways then_ now ms msf msn mw before lsz lw ls lrow mf mr mt mho mfl mh mmade hD hE
  have hD0 := hD
  obtain ⟨n, r, t, h, w, b, HF, HO, HI, s, hC, hS⟩ := hD
  obtain ⟨hg, hr, elf, em, er, emr, elst, hwa, hsa⟩ := hC.st
  obtain ⟨m, SF, SN, rfl, rfl, hse, hme⟩ := hE.ok
  have hN := hC.now
  have hn6 := hg.1
  have ht : t ≤ 2 := hC.1.2.2.2.1
  have elt : lt = nI t := hC.2.2.2.2.1.2.2.1
  have hG := bfs_gd (w := w) hg
  have hlen := hG.len
  have hB := bfs_spec hlen
  have hl0 : 0 < (bfs n w s).length := (List.getElem?_eq_some_iff.mp hB.1).1
  unfold wp_X10_byThen
  have hp3 : wp_X3_hasPerson p0 lr lt = wp_X3_hasPerson p0 (nI r) (nI t) := by rw [er, elt]
  rw [hp3]
  rcases person_cases hg.2 hC.2.2.1 hn6 hr ht p0 with ⟨k, hk, rfl, h8, h1, h2⟩ | hb
  rotate_left
  · refine hp_out hr ht (hb.imp id (fun ⟨k, a1, a2, a3, a4, a5⟩ => ⟨k, a1, a2, a4, a5⟩)) (b_no ?_)
    unfold wp_X11_byThen
    exact no_out hN.2.2.1 (hb.imp id (fun ⟨k, a1, a2, a3, a4, a5⟩ => ⟨k, a1, a2, a3⟩)) (b_yes ⟨rfl, hD0⟩)
  have h9 := ((hg.2.pz hn6).2 k hk).1
  refine hp_in hr ht hk h1 h2 (b_yes ?_)
  unfold wp_X10_rowsWith
  refine searchAll_spec hC hS (fun sz fl st cf hl v1 v2 v3 v4 hL => ?_)
  refine count_spec hG hB.cl hl0 hL hr hwa hsa hse (fun f g v1 v2 v3 v4 hf => ?_)
  refine crows_spec hG hL hf (B := fun i => if k < 4 then pz (stL (bfs n w s) i) k == 7 else pz (stL (bfs n w s) i) k == 6) (fun i hi => ?_) ?_
  · rw [bit_one _ (brN_lt _) k hk]
    unfold brN
    rw [bits6_tb]
    simp [hk]
  unfold wp_X11_byThen
  refine no_in hN.2.2.1 h9 hk h8 (b_no (layWays_spec hN hG hB.cl hB.1 hme (fun f' g' u v hf' => ?_)))
  have fin : RD lf lr lt lst lsz lw ls lwa lsa lrow 1 sz st cf hl mf mr mt mho mfl mh mat mw ms mmade := ⟨n, r, t, h, w, b, HF, HO, HI, s, hC, Or.inr ⟨rfl, hL⟩⟩
  have hSF : ∀ j, j < m → SF j < 6 := fun j hj => (hse.2 j hj).1
  have hm8 := hse.1
  have hw63 := fun c => vv_lt hG (SN := SN) hm8 hSF (j := m) (c := c) (Nat.le_refl m)
  generalize hLL : bfs n w s = L at *
  generalize hW : wysV w L SF SN m = W at *
  have hinj := cd_inj hG
  have succ := fun c => sm_lt_succ (cd := cdL L) (N := L.length) (c := c) (fun i => if (if k < 4 then pz (stL L i) k == 7 else pz (stL L i) k == 6) = true then W i else 0)
  refine kc3 3969 (fun c x y _ => y = nI c ∧ x = lN (fb_sm (fun i => if cdL L i < c then (if (if k < 4 then pz (stL L i) k == 7 else pz (stL L i) k == 6) = true then W i else 0) else 0) L.length)) ⟨rfl, ?_⟩ ?_
  · have e : fb_sm (fun i => if cdL L i < 0 then (if (if k < 4 then pz (stL L i) k == 7 else pz (stL L i) k == 6) = true then W i else 0) else 0) L.length = 0 := by
      exact (fb_sm_cong (g := fun _ => 0) (fun t _ => if_neg (Nat.not_lt_zero _))).trans (sm_zero L.length)
    rw [e]; rfl
  rintro c x y f9 K hc ⟨rfl, rfl⟩ hK
  refine pk_le 3969 c (fun c1 => ⟨?_, fin⟩) (fun c1 => ⟨vp_in_nI c1 (by decide), ?_⟩)
  · have e : c = 3969 := by omega
    subst e
    congr 1
    exact fb_sm_cong (fun i hi => (if_pos (cd_lt hG i hi)).symm)
  · rw [nI_clamp (by omega), hf' c c1]
    refine ⟨fun cz x13 e13 => hK c1 ⟨by rw [e13, nI_1], ?_⟩, fun cz => ?_⟩
    · rw [cmp_le0 (hw63 c)] at cz
      rw [succ c, sm_none, Nat.add_zero]
      intro i hi e
      have h := sm_one W hinj hi e
      have : W i = 0 := by rw [← h]; exact cz
      rw [this]
      exact ite_self _
    · rw [cmp_le0 (hw63 c)] at cz
      have ex : ∃ i, i < L.length ∧ cdL L i = c := by
        apply Classical.byContradiction
        intro no
        exact cz (sm_none _ (fun i hi e => absurd ⟨i, hi, e⟩ no))
      obtain ⟨i, hi, ei⟩ := ex
      have hp : L[i]? = some L[i] := List.getElem?_eq_getElem hi
      obtain ⟨hxg, hxk⟩ := hG.2 _ (List.mem_of_getElem? hp)
      have est := stL_at hp
      have ec : c = codeN L[i].1 := by rw [← ei]; unfold cdL; rw [est]
      have hvt : vvL L W c = W i := sm_one _ hinj hi ei
      have hone := sm_one (cd := cdL L) (c := c) (fun i => if (if k < 4 then pz (stL L i) k == 7 else pz (stL L i) k == 6) = true then W i else 0) hinj hi ei
      rw [hvt]
      rw [show wp_X11_lay (nI c) = wp_X11_lay (nI (codeN L[i].1)) by rw [← ec]]
      have hpz := ((hxg.2.pz hxg.1).2 k hk).1
      refine lay_spec (hxg.2.pz hxg.1) (lay_ok hN hxg hxk) (fun f14 h14 => ⟨vp_in_nI hk (by decide), ?_⟩)
      rw [nI_clamp (show k < 2 ^ 31 by omega), h14 k hk]
      rw [est] at hone
      have no : (if (if k < 4 then pz L[i].1 k == 7 else pz L[i].1 k == 6) = true then W i else 0) = 0 → ∀ x18 : Int64, x18 = lN (fb_sm (fun i => if cdL L i < c then (if (if k < 4 then pz (stL L i) k == 7 else pz (stL L i) k == 6) = true then W i else 0) else 0) L.length) + (0 : Int64) → ∀ x19 : Int32, x19 = nI c + 1 → K x18 x19 f14 := by
        intro z x18 e18 x19 e19
        refine hK c1 ⟨by rw [e19, nI_1], ?_⟩
        rw [e18, lN_addz, succ c, hone, z, Nat.add_zero]
      have yes : (if (if k < 4 then pz L[i].1 k == 7 else pz L[i].1 k == 6) = true then W i else 0) = W i → vp_in (nI c) 3969 ∧ ∀ x18 : Int64, x18 = lN (fb_sm (fun i => if cdL L i < c then (if (if k < 4 then pz (stL L i) k == 7 else pz (stL L i) k == 6) = true then W i else 0) else 0) L.length) + lN (W i) → ∀ x19 : Int32, x19 = nI c + 1 → K x18 x19 f14 := by
        intro z
        refine ⟨vp_in_nI c1 (by decide), fun x18 e18 x19 e19 => hK c1 ⟨by rw [e19, nI_1], ?_⟩⟩
        rw [e18, lN_add, succ c, hone, z]
      refine pk_le 4 k (fun c4 => pk_ne (pz L[i].1 k) 6 (fun c6 => yes ?_) (fun c6 => no ?_)) (fun c4 => pk_ne (pz L[i].1 k) 7 (fun c7 => yes ?_) (fun c7 => no ?_))
      · rw [if_neg (show ¬ k < 4 by omega), if_pos (by simpa using c6)]
      · rw [if_neg (show ¬ k < 4 by omega), if_neg (by simpa using c6)]
      · rw [if_pos c4, if_pos (by simpa using c7)]
      · rw [if_pos c4, if_neg (by simpa using c7)]
