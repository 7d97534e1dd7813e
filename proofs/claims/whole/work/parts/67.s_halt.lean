/-! PURE ROWS: halt -/
theorem bc_any {x : Int32} {P : Int32 → Prop} (hP : P (bcf x)) : wp_J6_bitCount_0f7a4 x P := by
  unfold wp_J6_bitCount_0f7a4
  rintro x1 rfl x2 rfl x3 rfl x4 rfl x5 rfl
  exact hP
def okHalt (w : Nat → Nat) (s : List Nat) (f : Nat) (x y : Int32) (o e : Nat) : Prop := x = nI o ∧ y = nI e ∧ o ≠ 0 ∧ o &&& outM w s f = o ∧ e &&& inM s f = e ∧ pop6 e = pop6 o
theorem ok_of {w : Nat → Nat} {s : List Nat} {f : Nat} {x y : Int32} (h1 : ¬ x = 0) (h2 : x &&& (nI (outM w s f) ^^^ (-1 : Int32)) = 0) (h3 : y &&& (nI (inM s f) ^^^ (-1 : Int32)) = 0) (h4 : ∀ o e, o < 64 → e < 64 → x = nI o → y = nI e → pop6 e = pop6 o) : ∃ o e, okHalt w s f x y o e := by
  rcases set_cases x with ⟨o, ho, rfl⟩ | c
  · rcases set_cases y with ⟨e, he, rfl⟩ | c
    · have a1 := (andn_0 ho).mp h2
      have a2 := (andn_0 he).mp h3
      exact ⟨o, e, rfl, rfl, fun z => h1 (by rw [z]; rfl), a1, a2, h4 o e (and_lt64 a1 (outM_lt _ _ _)) (and_lt64 a2 (inM_lt _ _)) rfl rfl⟩
    · exact absurd h3 (andn_neg (inM_lt _ _) c)
  · exact absurd h2 (andn_neg (outM_lt _ _ _) c)
section ALLOW
variable {n r : Nat} {w b : Nat → Nat} {s : List Nat} {f : Nat} {lwa lsa : Nat → Int32} {x y : Int32} {P : Int32 → Prop}
theorem allows_spec (hg : StG n r b s) (hr : r ≤ 4) (hf : f < n) (hwa : lwa f = nI (bits4 fun k => decide (k < r) && w k == f)) (hsa : lsa f = nI (bits4 fun k => decide (k < r) && b k == f)) (h1 : ∀ o e, okHalt w s f x y o e → P 1) (h0 : (¬ ∃ o e, okHalt w s f x y o e) → P 0) : wp_X5_allows (nI f) x y (nI (encS s)) lwa lsa P := by
  have hn6 := hg.1
  unfold wp_X5_allows
  refine ⟨fun c => h0 ?_, fun c => bc_any (bc_any ⟨fun c2 => h0 ?_, fun c2 => ?_⟩)⟩
  · rintro ⟨o, e, e1, -, n0, a1, -⟩
    exact nz64 (and_lt64 a1 (outM_lt _ _ _)) n0 (e1.symm.trans c)
  · rintro ⟨o, e, e1, e2, -, a1, a2, hp⟩
    apply c2
    rw [e1, e2, bcf_64 _ (and_lt64 a1 (outM_lt _ _ _)), bcf_64 _ (and_lt64 a2 (inM_lt _ _)), hp]
  · unfold wp_X5_mayLeave wp_X5_mayEnter
    refine mayLeave_enc (t := 0) (b := b) hg hr (by omega) hwa ⟨fun c3 => h0 ?_, fun c3 => mayEnter_enc (t := 0) (w := w) hg hr hf hsa ⟨fun c4 => h0 ?_, fun c4 => ?_⟩⟩
    · rintro ⟨o, e, e1, -, -, a1, -⟩
      apply c3
      rw [e1]
      have := and_lt64 a1 (outM_lt w s f)
      exact (andn_0 (by omega)).mpr a1
    · rintro ⟨o, e, -, e2, -, -, a2, -⟩
      apply c4
      rw [e2]
      have := and_lt64 a2 (inM_lt s f)
      exact (andn_0 (by omega)).mpr a2
    · obtain ⟨o, e, h⟩ := ok_of c c3 c4 (fun o e ho he e1 e2 => by
        rw [e1, e2, bcf_64 _ ho, bcf_64 _ he] at c2
        exact (pop_eq.mp c2).symm)
      exact h1 o e h
end ALLOW
theorem s_halt : S_halt := by
  intro p0 p1 p2 sea lst lsz lf lwa lsa lrow mf mho mfl mh mat mw mmade lr lt lw ls ssz sst scf shl mr mt ms hD
  have hD0 := hD
  obtain ⟨n, r, t, h, w, b, HF, HO, HI, s, hC, hS⟩ := hD
  have hC0 := hC
  obtain ⟨hH, hS', hT, hR, hL, rfl, rfl, hrow, hM, hat, rfl, emo, emf, hmade⟩ := hC
  have h24 := hR.1
  obtain ⟨rfl, -, -, -, -, -, hwa, hsa⟩ := hL
  obtain ⟨rfl, -, -, hmw, -⟩ := hM
  obtain ⟨hn2, hn6, hr, ht, hwb⟩ := hH
  have hg : StG n r b s := ⟨hn6, hS'⟩
  have hw : ∀ k, k < r → mw k = nI (w k) ∧ w k < n := fun k hk => ⟨hmw k hk, (hwb k hk).1⟩
  unfold wp_X10_halt
  rcases floor_cases (by omega) hn6 p0 with ⟨f, hf, rfl⟩ | hb
  · refine hf_in hn6 hf (b_yes' (allows_spec hg hr hf (hwa f (by omega)) (hsa f (by omega)) (fun o e hok => b_yes' ?_) (fun hno => b_no' ?_)))
    · obtain ⟨rfl, rfl, n0, a1, a2, hp⟩ := hok
      have l1 := and_lt64 a1 (outM_lt w s f)
      have l2 := and_lt64 a2 (inM_lt s f)
      have hm := mv_of hf n0 a1 a2 hp
      have n2 : e ≠ 0 := (mv_bits hm).2.2.2.2.2.2
      have R : ∀ {P : Int32 → Int32 → Int32 → Int32 → Int32 → (Nat → Int32) → (Nat → Int32) → Prop}, ((¬ nI h = (24 : Int32) → (wp_X11_goHalt (nI f) (nI o) (nI e) mho mfl (nI h) mmade mat (fun v_18 v_19 v_20 f_21 f_22 => (wp_X11_many (nI o) (fun r_23 => P r_23 (0 : Int32) v_18 v_19 v_20 f_22 f_21))))) ∧ (nI h = (24 : Int32) → P (-4 : Int32) (0 : Int32) mho mfl (nI h) mat mmade)) → wp_X11_halt (nI f) (nI o) (nI e) (nI n) mho mfl (nI h) mat mw mmade P := by
        intro P hP
        unfold wp_X11_halt
        refine nf_in hn6 hf (b_no (pk_le o 0 (fun c => by omega) (fun _ => pk_le e 0 (fun c => by omega) (fun _ => mayOf_spec hg hr (by omega) hat hw ?_))))
        rw [if_neg (by decide)]
        refine ⟨fun c => absurd ((andn_0 (by omega)).mpr a1) c, fun _ => mayOf_spec hg hr (by omega) hat hw ?_⟩
        rw [if_pos rfl]
        refine ⟨fun c => absurd ((andn_0 (by omega)).mpr a2) c, fun _ => many_spec l1 (many_spec l2 ⟨fun _ => hP, fun c => absurd (by rw [hp]) c⟩)⟩
      unfold wp_X5_isFull
      refine pk_lt h 24 (fun c => b_no ?_) (fun c => b_yes ?_)
      · unfold wp_X10_makeHalt
        refine add_spec hC0 hm c (fun row2 hrow2 => bc_spec l1 (R ⟨fun _ => goHalt_spec hC0 hm c (fun mat2 made2 hmat2 hmade2 => many_spec l1 ⟨rfl, ?_⟩), fun z => absurd ((nI_eq (b := 24) (by omega) (by decide)).mp z) (by omega)⟩))
        exact ⟨n, r, t, h + 1, w, b, _, _, _, _, core_step hC0 hm c hrow2 hmat2 hmade2, Or.inl rfl⟩
      · have : h = 24 := by omega
        subst this
        exact R ⟨fun z => absurd rfl z, fun _ => ⟨rfl, hD0⟩⟩
    · unfold wp_X11_halt
      refine nf_in hn6 hf (b_no ⟨fun _ => ⟨rfl, hD0⟩, fun c1 => ⟨fun _ => ⟨rfl, hD0⟩, fun c2 => mayOf_spec hg hr (by omega) hat hw ?_⟩⟩)
      rw [if_neg (by decide)]
      refine ⟨fun _ => ⟨rfl, hD0⟩, fun c3 => mayOf_spec hg hr (by omega) hat hw ?_⟩
      rw [if_pos rfl]
      refine ⟨fun _ => ⟨rfl, hD0⟩, fun c4 => ?_⟩
      rcases set_cases p1 with ⟨o, ho, rfl⟩ | c
      · rcases set_cases p2 with ⟨e, he, rfl⟩ | c
        · have a1 := (andn_0 ho).mp c3
          have a2 := (andn_0 he).mp c4
          refine many_spec (and_lt64 a1 (outM_lt w s f)) (many_spec (and_lt64 a2 (inM_lt s f)) ⟨fun c5 => ?_, fun _ => ⟨rfl, hD0⟩⟩)
          exact absurd ⟨o, e, rfl, rfl, fun z => c1 (by rw [z]; decide), a1, a2, (pop_eq.mp c5).symm⟩ hno
        · exact absurd c4 (andn_neg (inM_lt _ _) c)
      · exact absurd c3 (andn_neg (outM_lt _ _ _) c)
  · refine hf_out hb (b_no' ?_)
    unfold wp_X11_halt
    exact nf_out (by omega) hn6 hb (b_yes ⟨rfl, hD0⟩)
