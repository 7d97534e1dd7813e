/-! PURE ROWS: walks -/
theorem gone_enc {s : List Nat} {P : Int32 → Prop} (hz : PzOk s) (hP : P (nI (bits4 fun k => pz s k == 6 || pz s k == 7))) : wp_X8_goneIn (nI (encS s)) P := by
  have hlt := encS_lt hz
  unfold wp_X8_goneIn
  rw [pk_shrN (by omega) _ 4 (by decide), fa_or, anA (x := encS s ||| encS s / 2 ^ 4) (Nat.lt_of_lt_of_le (Nat.or_lt_two_pow (n := 14) hlt (by have : encS s / 2 ^ 4 ≤ encS s := Nat.div_le_self _ _; omega)) (by decide)) 15 4 (by decide)]
  have e : (encS s ||| encS s / 2 ^ 4) % 2 ^ 4 = bits4 fun k => pz s k == 6 || pz s k == 7 := by
    apply tb_ext (n := 4) (Nat.mod_lt _ (by decide)) (bits4_lt _)
    intro k c
    have h1 : (encS s).testBit k = (pz s k == 6) := by
      have h1 := low4 (R := encS s / 16) (bits4_lt (fun k => pz s k == 6)) k
      rw [← enc_and15 hz, Nat.mod_add_div, if_pos c, enc_and15 hz, bits4_tb] at h1
      rw [h1]; simp [c]
    have h2 : (encS s / 2 ^ 4).testBit k = (pz s k == 7) := by
      have h2 := low4 (R := encS s / 16 / 16) (bits4_lt (fun k => pz s k == 7)) k
      rw [← enc_div16 hz, Nat.mod_add_div, if_pos c, enc_div16 hz, bits4_tb] at h2
      rw [show encS s / 2 ^ 4 = encS s / 16 from rfl, h2]; simp [c]
    rw [Nat.testBit_mod_two_pow, Nat.testBit_or, h1, h2, bits4_tb]
  rw [e]; exact hP
theorem enc_same {s : List Nat} {k v : Nat} (hk : k < 4) (h1 : pz s k < 6) (hv : v < 6) : encS (putS s k v) = encS s := by
  have hb : ∀ u, 6 ≤ u → bits4 (fun i => pz (putS s k v) i == u) = bits4 (fun i => pz s i == u) := by
    intro u hu
    apply tb_ext (n := 4) (bits4_lt _) (bits4_lt _)
    intro i hi
    rw [bits4_tb, bits4_tb, putS_pz _ _ _ _ (by omega)]
    by_cases q : i = k
    · subst q
      rw [if_pos rfl, show (v == u) = false from beq_false_of_ne (by omega), show (pz s i == u) = false from beq_false_of_ne (by omega)]
    · rw [if_neg q]
  rw [encS_E, encS_E, hb 6 (by decide), hb 7 (by decide), putS_pz _ _ _ _ (by decide), putS_pz _ _ _ _ (by decide), if_neg (by omega), if_neg (by omega)]
theorem andn_zero (a : Nat) : andn a 0 = a := by unfold andn; rw [Nat.and_zero, Nat.xor_zero]
theorem done_put {s : List Nat} {k : Nat} (hz : PzOk s) (hk : k < 4) (h1 : pz s k < 6) {P : Int32 → Prop} (hP : P (nI (encS (putS s k 7)))) : wp_X8_withDone (nI (encS s)) (nI k) P := by
  unfold wp_X8_withDone
  obtain ⟨ha, hd, hp, hq⟩ := encS_parts hz
  have hpk : 2 ^ k < 16 := Nat.lt_of_lt_of_le (Nat.pow_lt_pow_right (by decide) hk) (by decide)
  rw [show (4 : Int32) + nI k = nI (4 + k) from nI_add 4 k, sh1 (4 + k) (by omega), fa_or]
  have e : encS s ||| 2 ^ (4 + k) = encS (putS s k 7) := by
    have r1 := rid4 (R := bits4 (fun k => pz s k == 7) + 16 * (plc (pz s 4) + 8 * plc (pz s 5))) ha (show 0 < 16 by decide) (show 0 < 16 by decide) hpk
    have r2 := rid4 (R := plc (pz s 4) + 8 * plc (pz s 5)) hd (show 0 < 16 by decide) hpk (show 0 < 16 by decide)
    rw [andn_zero, andn_zero, Nat.or_zero, Nat.or_zero] at r1
    rw [andn_zero, andn_zero, Nat.zero_mul, Nat.or_zero, Nat.or_zero] at r2
    have e6 : bits4 (fun i => pz (putS s k 7) i == 6) = bits4 (fun i => pz s i == 6) := by
      apply tb_ext (n := 4) (bits4_lt _) (bits4_lt _)
      intro i hi
      rw [bits4_tb, bits4_tb, putS_pz _ _ _ _ (by omega)]
      by_cases q : i = k
      · subst q
        have c : ¬ pz s i = 6 := by omega
        simp [c]
      · rw [if_neg q]
    have e7 : bits4 (fun i => pz (putS s k 7) i == 7) = bits4 (fun i => pz s i == 7) ||| 2 ^ k := by
      apply tb_ext (n := 4) (bits4_lt _) (Nat.or_lt_two_pow (n := 4) hd hpk)
      intro i hi
      rw [bits4_tb, Nat.testBit_or, bits4_tb, Nat.testBit_two_pow, putS_pz _ _ _ _ (by omega)]
      by_cases q : i = k
      · subst q; simp [hi]
      · rw [if_neg q]
        have : ¬ k = i := fun z => q z.symm
        simp [this]
    rw [encS_E, encS_E, e6, e7, putS_pz _ _ _ _ (by decide), putS_pz _ _ _ _ (by decide), if_neg (by omega), if_neg (by omega)]
    unfold E4
    rw [r2] at r1
    rw [show 2 ^ (4 + k) = 2 ^ k * 16 by rw [Nat.pow_add]; omega]
    have l : bits4 (fun k => pz s k == 6) + 16 * bits4 (fun k => pz s k == 7) + 256 * plc (pz s 4) + 2048 * plc (pz s 5) = bits4 (fun k => pz s k == 6) + 16 * (bits4 (fun k => pz s k == 7) + 16 * (plc (pz s 4) + 8 * plc (pz s 5))) := by omega
    rw [l, r1]
    omega
  rw [e]; exact hP
def walkS (s : List Nat) (w : Nat → Nat) (k g : Nat) : List Nat := putS s k (if g = w k then 7 else g)
def goW (n : Nat) (s : List Nat) (k up : Nat) : Option Nat := if pz s k < 6 then (if up = 0 then (if 1 ≤ pz s k then some (pz s k - 1) else none) else if pz s k + 1 < n then some (pz s k + 1) else none) else none
def WV (n r : Nat) (w : Nat → Nat) (s : List Nat) (k up v : Nat) : Prop := (goW n s k up = none ∧ v = 99999) ∨ ∃ g, goW n s k up = some g ∧ FvE n w (2 ^ r - 1) (walkS s w k g) v
theorem fvE_one {n m : Nat} {w : Nat → Nat} {s : List Nat} {v v' : Nat} (h : FvE n w m s v) (h' : FvE n w m s v') : v = v' := by
  rcases h with ⟨a1, a2⟩ | ⟨a1, a2⟩ <;> rcases h' with ⟨b1, b2⟩ | ⟨b1, b2⟩
  · exact few_one a2 b2
  · exact absurd a2.1 (b1 _)
  · exact absurd b2.1 (a1 _)
  · rw [a2, b2]
theorem fvE_le {n m : Nat} {w : Nat → Nat} {s : List Nat} {v : Nat} (h : FvE n w m s v) : v ≤ 128 ∨ v = 99999 := by
  rcases h with ⟨a1, a2⟩ | ⟨a1, a2⟩
  · exact Or.inl a1
  · exact Or.inr a2
theorem wv_one {n r : Nat} {w : Nat → Nat} {s : List Nat} {k up v v' : Nat} (h : WV n r w s k up v) (h' : WV n r w s k up v') : v = v' := by
  rcases h with ⟨a1, a2⟩ | ⟨g, a1, a2⟩ <;> rcases h' with ⟨b1, b2⟩ | ⟨g', b1, b2⟩
  · rw [a2, b2]
  · rw [a1] at b1; exact nomatch b1
  · rw [a1] at b1; exact nomatch b1
  · rw [a1] at b1
    cases b1
    exact fvE_one a2 b2
def fewI (v : Nat) : Int32 := if v = 99999 then -9 else nI v
section WALK
variable {n r : Nat} {w b : Nat → Nat} {s : List Nat}
theorem goW_some {k up g : Nat} (hn6 : n ≤ 6) (hg : StG n r b s) (hk : k < r) (hr : r ≤ 4) (h : goW n s k up = some g) : pz s k < 6 ∧ pz s k = b k ∧ b k < n ∧ g < n ∧ g ≠ pz s k := by
  unfold goW at h
  by_cases c : pz s k < 6
  · rw [if_pos c] at h
    rcases hg.2.2.1 k (by omega) hk with ⟨q, q2⟩ | q | q
    · refine ⟨c, q, q2, ?_⟩
      by_cases u : up = 0
      · rw [if_pos u] at h
        by_cases c1 : 1 ≤ pz s k
        · rw [if_pos c1] at h
          cases h
          omega
        · rw [if_neg c1] at h; exact nomatch h
      · rw [if_neg u] at h
        by_cases c1 : pz s k + 1 < n
        · rw [if_pos c1] at h
          cases h
          omega
        · rw [if_neg c1] at h; exact nomatch h
    · omega
    · omega
  · rw [if_neg c] at h; exact nomatch h
theorem walk_ok (hg : StG n r b s) (hr : r ≤ 4) {k g : Nat} (hk : k < r) (hgn : g < n) : StG n r (setN b k g) (walkS s w k g) := by
  obtain ⟨h6, hl, h1, h2, h3⟩ := hg
  unfold walkS
  refine ⟨h6, rfl, fun i hi hir => ?_, fun i hi hir => ?_, fun i hi hi6 => ?_⟩
  · rw [putS_pz _ _ _ _ (by omega)]
    by_cases q : i = k
    · subst q
      rw [if_pos rfl, setN_eq]
      by_cases c : g = w i
      · rw [if_pos c]; exact Or.inr (Or.inr rfl)
      · rw [if_neg c]; exact Or.inl ⟨rfl, hgn⟩
    · rw [if_neg q, setN_ne _ _ q]; exact h1 i hi hir
  · rw [putS_pz _ _ _ _ (by omega), if_neg (by omega)]; exact h2 i hi hir
  · rw [putS_pz _ _ _ _ hi6, if_neg (by omega)]; exact h3 i hi hi6
theorem settle_spec (hg : StG n r b s) (hr : r ≤ 4) {k g : Nat} (hk : k < r) (hpb : pz s k = b k) (hb : b k < n) (hgn : g < n) (hne : g ≠ b k) {st sa : Nat → Int32} (hst : st k = nI (b k)) (hsa : ∀ f, f < 6 → sa f = nI (bits4 fun i => decide (i < r) && b i == f)) {P : (Nat → Int32) → (Nat → Int32) → Prop}
    (hP : ∀ u v, (∀ f, f < 6 → v f = nI (bits4 fun i => decide (i < r) && setN b k g i == f)) → P u v) : wp_X3_settle (nI k) (nI g) st sa P := by
  have hn6 := hg.1
  have hpk : 2 ^ k < 16 := Nat.lt_of_lt_of_le (Nat.pow_lt_pow_right (by decide) (by omega : k < 4)) (by decide)
  unfold wp_X3_settle wp_X3_standOf
  refine at_in (by omega) (by decide) ?_
  rw [hst]
  refine at_in (n := 6) (by omega) (by decide) (put_in (by omega) (by decide) (put_in (by omega) (by decide) (at_in (n := 6) (by omega) (by decide) (put_in (by omega) (by decide) (hP _ _ (fun f hf => ?_))))))
  rw [sh1 k (by omega), hsa _ (by omega), nI_andn]
  by_cases c : f = g
  · subst c
    rw [pk_us, pk_un hne, hsa f hf, fa_or]
    congr 1
    apply tb_ext (n := 4) (Nat.or_lt_two_pow (n := 4) (bits4_lt _) hpk) (bits4_lt _)
    intro i hi
    rw [Nat.testBit_or, bits4_tb, bits4_tb, Nat.testBit_two_pow]
    by_cases q : i = k
    · subst q
      rw [setN_eq]; simp [hi, hk]
    · rw [setN_ne _ _ q]
      have : ¬ k = i := fun z => q z.symm
      simp [this]
  · rw [pk_un c]
    by_cases c2 : f = b k
    · subst c2
      rw [pk_us]
      congr 1
      apply tb_ext (n := 4) (andn_lt (n := 4) (bits4_lt _)) (bits4_lt _)
      intro i hi
      rw [andn_tb, bits4_tb, bits4_tb, Nat.testBit_two_pow]
      by_cases q : i = k
      · subst q
        rw [setN_eq]; simp [hne]
      · rw [setN_ne _ _ q]
        have : ¬ k = i := fun z => q z.symm
        simp [this]
    · rw [pk_un c2, hsa f hf]
      congr 1
      apply tb_ext (n := 4) (bits4_lt _) (bits4_lt _)
      intro i hi
      rw [bits4_tb, bits4_tb]
      by_cases q : i = k
      · subst q
        rw [setN_eq]
        rw [show (b i == f) = false from beq_false_of_ne (fun z => c2 z.symm), show (g == f) = false from beq_false_of_ne (fun z => c z.symm)]
      · rw [setN_ne _ _ q]
theorem cwalk_spec {lf lr lt lst se : Int32} {ls lw lwa lsa : Nat → Int32} (hg : StG n r b s) (hr : r ≤ 4) (elf : lf = nI n) (elr : lr = nI r) (elst : lst = nI (encS s)) (hlw : ∀ k, k < r → lw k = nI (w k) ∧ w k < n) (hls : ∀ k, k < r → b k < n → ls k = nI (b k)) (hwa : ∀ f, f < 6 → lwa f = nI (bits4 fun k => decide (k < r) && w k == f)) (hsa : ∀ f, f < 6 → lsa f = nI (bits4 fun k => decide (k < r) && b k == f))
    {k up v : Nat} (hk : k < r) (hup : up < 2) (hv : WV n r w s k up v) {flt : Int32} (hfl : flt = if up = 1 then (1 : Int32) else -1) {tf tr tst sz fl v1 v2 v3 v4 : Int32} {tw ts twa tsa st cf hl : Nat → Int32}
    {P : Int32 → Int32 → Int32 → Int32 → Int32 → (Nat → Int32) → (Nat → Int32) → (Nat → Int32) → (Nat → Int32) → Int32 → Int32 → (Nat → Int32) → (Nat → Int32) → (Nat → Int32) → Int32 → Int32 → Int32 → Int32 → Prop}
    (hA : v = 99999 → P (-9) se tf tr tst tw ts twa tsa sz fl st cf hl v1 v2 v3 v4)
    (hB : ∀ tf tr tst tw ts twa tsa sz fl st cf hl v1 v2 v3 v4, P (fewI v) 0 tf tr tst tw ts twa tsa sz fl st cf hl v1 v2 v3 v4) :
    wp_X10_fewestAfterWalk (nI k) flt se lst lf lr lt ls lw tf tr tst tw ts lwa twa lsa tsa sz fl st cf hl v1 v2 v3 v4 P := by
  have hn6 := hg.1
  have hz := hg.2.pz hn6
  obtain ⟨p16, p16'⟩ := pow_16 hr
  subst elf elr elst hfl
  have nov : goW n s k up = none → v = 99999 := by
    intro e
    rcases hv with ⟨-, a⟩ | ⟨g, a, -⟩
    · exact a
    · rw [e] at a; exact nomatch a
  unfold wp_X10_fewestAfterWalk wp_X3_standOf
  refine at_in (by omega) (by decide) (fun x2 e2 => gone_enc hz ?_)
  have hbit := bit_and (bits4 fun k => pz s k == 6 || pz s k == 7) (Nat.lt_trans (bits4_lt _) (by decide)) k (by omega)
  rw [bits4_tb, show decide (k < 4) = true from by simpa using (by omega : k < 4), Bool.true_and] at hbit
  refine ⟨fun c => hA (nov ?_), fun c => ?_⟩
  · have : ¬ pz s k < 6 := by
      intro z
      apply c
      rw [hbit]
      have a1 : ¬ pz s k = 6 := by omega
      have a2 : ¬ pz s k = 7 := by omega
      simp [a1, a2]
    unfold goW
    rw [if_neg this]
  · rw [hbit] at c
    have n6 : pz s k ≠ 6 := fun z => by simp [z] at c
    have n7 : pz s k ≠ 7 := fun z => by simp [z] at c
    obtain ⟨hpb, hbn⟩ : pz s k = b k ∧ b k < n := by
      rcases hg.2.2.1 k (by omega) hk with q | q | q
      · exact q
      · exact absurd q n6
      · exact absurd q n7
    rw [hls k hk hbn] at e2
    have go : (∃ g, goW n s k up = some g ∧ x2 = nI g) ∨ (goW n s k up = none ∧ (x2 < 0 ∨ nI n ≤ x2)) := by
      unfold goW
      rw [if_pos (by omega)]
      rcases (show up = 0 ∨ up = 1 by omega) with rfl | rfl
      · rw [if_pos rfl]
        rw [if_neg (by decide)] at e2
        by_cases c1 : 1 ≤ pz s k
        · rw [if_pos c1]
          refine Or.inl ⟨_, rfl, ?_⟩
          rw [e2, ← hpb, show pz s k = (pz s k - 1) + 1 by omega, pk_m1]; rfl
        · rw [if_neg c1]
          refine Or.inr ⟨rfl, Or.inl ?_⟩
          rw [e2, show b k = 0 by omega]; decide
      · rw [if_neg (by decide)]
        rw [if_pos rfl, nI_1] at e2
        by_cases c1 : pz s k + 1 < n
        · rw [if_pos c1]
          exact Or.inl ⟨_, rfl, by rw [e2, hpb]⟩
        · rw [if_neg c1]
          refine Or.inr ⟨rfl, Or.inr ?_⟩
          rw [e2]
          exact nI_le (by omega) (by omega)
    rcases go with ⟨g, e, rfl⟩ | ⟨e, hout⟩
    rotate_left
    · exact hf_out hout (b_no' (hA (nov e)))
    · obtain ⟨a1, -, -, hgn, hne⟩ := goW_some hn6 hg hk hr e
      have hfv : FvE n w (2 ^ r - 1) (walkS s w k g) v := by
        rcases hv with ⟨z, -⟩ | ⟨g', z, hfv⟩
        · rw [e] at z; exact nomatch z
        · rw [e] at z
          cases z
          exact hfv
      have hg2 := walk_ok (w := w) hg hr hk hgn
      refine hf_in hn6 hgn (b_yes' ?_)
      unfold wp_X3_riderBits wp_X3_wantOf
      rw [rb_I r (by omega)]
      refine at_in (by omega) (by decide) ?_
      obtain ⟨lw1, lw2⟩ := hlw k hk
      rw [lw1]
      have done : ∀ {wa2 sa2 : Nat → Int32} {Q : Int32 → Int32 → Int32 → (Nat → Int32) → (Nat → Int32) → (Nat → Int32) → Int32 → Int32 → Int32 → Int32 → Prop}, (∀ f, f < 6 → wa2 f = nI (bits4 fun k => decide (k < r) && w k == f)) → (∀ f, f < 6 → sa2 f = nI (bits4 fun i => decide (i < r) && setN b k g i == f)) → (∀ sz fl st cf hl v1 v2 v3 v4, Q (fewI v) sz fl st cf hl v1 v2 v3 v4) →
          wp_X6_explore (nI (encS (walkS s w k g))) (nI (2 ^ r - 1)) st cf hl (nI n) wa2 sa2 v1 v2 v3 v4 (fun sz fl st cf hl v1 v2 v3 v4 => wp_X6_firstWith (nI (2 ^ r - 1)) sz st (fun i => wp_X6_haltsTo i sz cf (fun x => Q x sz fl st cf hl v1 v2 v3 v4))) := by
        intro wa2 sa2 Q hwa2 hsa2 hQ
        refine cexp_spec (Q := fun i sz fl st cf hl v1 v2 v3 v4 => wp_X6_haltsTo i sz cf (fun x => Q x sz fl st cf hl v1 v2 v3 v4)) hg2 hr hwa2 hsa2 (m := 2 ^ r - 1) (by omega) (fun tt u sz fl st cf hl v1 v2 v3 v4 htt hu hf hto => hto _ ?_) (fun hno sz fl st cf hl v1 v2 v3 v4 => ?_)
        · have := fvE_one hfv (Or.inl ⟨hu, hf⟩)
          have hq := hQ sz fl st cf hl v1 v2 v3 v4
          unfold fewI at hq
          rw [if_neg (by omega), this] at hq
          exact hq
        · have := fvE_one hfv (Or.inr ⟨hno, rfl⟩)
          have hq := hQ sz fl st cf hl v1 v2 v3 v4
          unfold fewI at hq
          rw [if_pos this] at hq
          unfold wp_X6_haltsTo
          exact ⟨fun z => absurd rfl z, fun _ => hq⟩
      refine ⟨fun c2 => ?_, fun c2 => ?_⟩
      · have ng : g ≠ w k := fun z => c2 (by rw [z])
        have es : encS (walkS s w k g) = encS s := by unfold walkS; rw [if_neg ng]; exact enc_same (by omega) a1 (by omega)
        unfold wp_X3_copyFrom
        refine copy_spec (by decide) (fun u1 h1 => copy_spec (by decide) (fun u2 h2 => copy_spec (by decide) (fun u3 h3 => copy_spec (by decide) (fun u4 h4 => ?_))))
        refine settle_spec hg hr hk hpb hbn hgn (by omega) ((h2 k (by omega)).trans (hls k hk hbn)) (fun f hf => (h4 f hf).trans (hsa f hf)) (fun y z hz2 => ?_)
        rw [← es]
        exact done (fun f hf => (h3 f hf).trans (hwa f hf)) hz2 (fun _ _ _ _ _ _ _ _ _ => hB _ _ _ _ _ _ _ _ _ _ _ _ _ _ _ _)
      · have ng : g = w k := (nI_eq (by omega) (by omega)).mp c2
        unfold wp_X3_copyFrom
        refine copy_spec (by decide) (fun u1 h1 => copy_spec (by decide) (fun u2 h2 => copy_spec (by decide) (fun u3 h3 => copy_spec (by decide) (fun u4 h4 => ?_))))
        refine settle_spec hg hr hk hpb hbn hgn (by omega) ((h2 k (by omega)).trans (hls k hk hbn)) (fun f hf => (h4 f hf).trans (hsa f hf)) (fun y z hz2 => done_put hz (by omega) a1 ?_)
        have es : putS s k 7 = walkS s w k g := by unfold walkS; rw [if_pos ng]
        rw [es]
        exact done (fun f hf => (h3 f hf).trans (hwa f hf)) hz2 (fun _ _ _ _ _ _ _ _ _ => hB _ _ _ _ _ _ _ _ _ _ _ _ _ _ _ _)
/-- both go through the walks in one order -/
def foldW (val : Nat → Nat → Nat) (L0 : Nat) : Nat → Nat × Int32
  | 0 => (L0, -9)
  | j + 1 => if val (j / 2) (j % 2) < (foldW val L0 j).1 then (val (j / 2) (j % 2), nI (10 * (j / 2) + j % 2)) else foldW val L0 j
theorem foldW_le {val : Nat → Nat → Nat} {L0 : Nat} (h0 : L0 ≤ 128 ∨ L0 = 99999) (hv : ∀ k up, k < r → up < 2 → val k up ≤ 128 ∨ val k up = 99999) : ∀ j, j ≤ 2 * r → (foldW val L0 j).1 ≤ 128 ∨ (foldW val L0 j).1 = 99999
  | 0, _ => h0
  | j + 1, hj => by
    have h1 := foldW_le h0 hv j (by omega)
    have h2 := hv (j / 2) (j % 2) (by omega) (by omega)
    show (if _ then _ else _ : Nat × Int32).1 ≤ 128 ∨ (if _ then _ else _ : Nat × Int32).1 = 99999
    split
    · exact h2
    · exact h1
theorem fewestBy_spec {mat mw ms was row now before far : Nat → Int32} (hN : NowOk n r w b s mat mw ms) {k g up v : Nat} (hk : k < r) (hgo : goW n s k up = some g) (hv : WV n r w s k up v)
    {P : Int32 → Int32 → (Nat → Int32) → (Nat → Int32) → (Nat → Int32) → (Nat → Int32) → (Nat → Int32) → (Nat → Int32) → (Nat → Int32) → Prop}
    (hP : ∀ u m2 s2 f1 f2 f3 f4 f5, (∀ i, i < 6 → m2 i = mat i) → (∀ i, s2 i = ms i) → P (nI v) u m2 s2 f1 f2 f3 f4 f5) :
    wp_X11_fewestBy (nI k) (nI g) (nI n) (nI r) mat mw ms was row now before far P := by
  obtain ⟨hg, hr, hat, hw, hms⟩ := hN
  have hn6 := hg.1
  obtain ⟨p16, p16'⟩ := pow_16 hr
  obtain ⟨a1, a2, a3, hgn, hne⟩ := goW_some hn6 hg hk hr hgo
  have hfv : FvE n w (2 ^ r - 1) (walkS s w k g) v := by
    rcases hv with ⟨z, -⟩ | ⟨g', z, hfv⟩
    · rw [hgo] at z; exact nomatch z
    · rw [hgo] at z
      cases z
      exact hfv
  have hg2 := walk_ok (w := w) hg hr hk hgn
  obtain ⟨w1, w2⟩ := hw k hk
  have hN2 : ∀ {m2 s2 : Nat → Int32} {y : Int32}, y = nI (if g = w k then 7 else g) → m2 = upd mat k y → s2 = upd ms k (nI g) → NowOk n r w (setN b k g) (walkS s w k g) m2 mw s2 := by
    rintro m2 s2 y rfl rfl rfl
    refine ⟨hg2, hr, fun i hi => ?_, hw, fun i hi hb => ?_⟩
    · unfold walkS
      rw [putS_pz _ _ _ _ hi]
      by_cases q : i = k
      · subst q; rw [pk_us, if_pos rfl]
      · rw [pk_un q, if_neg q]; exact hat i hi
    · by_cases q : i = k
      · subst q; rw [pk_us, setN_eq]
      · rw [setN_ne _ _ q] at hb ⊢
        rw [pk_un q]; exact hms i hi hb
  have ek : ms k = mat k := by rw [hms k hk a3, hat k (by omega), a2]
  have fin : ∀ {v0 : Nat} {y : Int32} {u : Int32} {f1 f2 f3 f4 f5 : Nat → Int32}, FvE n w (2 ^ r - 1) (walkS s w k g) v0 → vp_in (nI k) 6 ∧ (∀ f_17 : Nat → Int32, f_17 = (upd (upd mat k y) (nI k).toNatClampNeg (mat k)) → (vp_in (nI k) 4 ∧ (∀ f_19 : Nat → Int32, f_19 = (upd (upd ms k (nI g)) (nI k).toNatClampNeg (mat k)) → P (nI v0) u f_17 f_19 f1 f2 f3 f4 f5))) := by
    intro v0 y u f1 f2 f3 f4 f5 h
    have := fvE_one hfv h
    subst this
    rw [nI_clamp (by omega)]
    refine ⟨vp_in_nI (by omega) (by decide), ?_⟩
    rintro f17 rfl
    refine ⟨vp_in_nI (by omega) (by decide), ?_⟩
    rintro f19 rfl
    refine hP _ _ _ _ _ _ _ _ (fun i hi => ?_) (fun i => ?_)
    · by_cases q : i = k
      · subst q; rw [pk_us]
      · rw [pk_un q, pk_un q]
    · by_cases q : i = k
      · subst q; rw [pk_us, ek]
      · rw [pk_un q, pk_un q]
  unfold wp_X11_fewestBy
  rw [rb_I r (by omega)]
  have hcl : (nI k).toNatClampNeg = k := nI_clamp (by omega)
  rw [hcl, w1]
  refine ⟨vp_in_nI (by omega) (by decide), ?_⟩
  rintro x2 rfl
  refine ⟨vp_in_nI (by omega) (by decide), fun c => ⟨vp_in_nI (by omega) (by decide), ?_⟩, fun c => ⟨vp_in_nI (by omega) (by decide), ?_⟩⟩
  · rintro f6 rfl
    refine ⟨vp_in_nI (by omega) (by decide), ?_⟩
    rintro f8 rfl
    have ng : g ≠ w k := fun z => c (by rw [z])
    refine fewestOf_spec (hN2 (by rw [if_neg ng]) rfl rfl) (by omega) (fun v0 vv f gg h1 h2 far hv0 _ _ _ _ => ?_)
    have := fin (y := nI g) (u := vv) (f1 := f) (f2 := gg) (f3 := h1) (f4 := h2) (f5 := far) hv0
    rw [hcl] at this
    exact this
  · rintro f21 rfl
    refine ⟨vp_in_nI (by omega) (by decide), ?_⟩
    rintro f23 rfl
    have ng : g = w k := (nI_eq (by omega) (by omega)).mp c
    refine fewestOf_spec (hN2 (y := 7) (by rw [if_pos ng]; rfl) rfl rfl) (by omega) (fun v0 vv f gg h1 h2 far hv0 _ _ _ _ => ?_)
    have := fin (y := 7) (u := vv) (f1 := f) (f2 := gg) (f3 := h1) (f4 := h2) (f5 := far) hv0
    rw [hcl] at this
    exact this
end WALK
/-! PURE ROWS: walks, the loops -/
theorem fvE_ex {n r m : Nat} {w b : Nat → Nat} {s : List Nat} (hg : StG n r b s) : ∃ v, FvE n w m s v := by
  by_cases c : ∃ k, rch n w m k s
  · obtain ⟨k, hk⟩ := c
    obtain ⟨j, -, hj⟩ := few_ex hk
    have hG := bfs_gd (w := w) hg
    have hB := bfs_spec hG.len
    have := few_len hB.cl (List.mem_of_getElem? hB.1) hj
    have := hG.len
    exact ⟨j, Or.inl ⟨by omega, hj⟩⟩
  · exact ⟨99999, Or.inr ⟨fun k hk => c ⟨k, hk⟩, rfl⟩⟩
theorem fewI_9 {v : Nat} (hv : v ≤ 128 ∨ v = 99999) : fewI v = -9 ↔ v = 99999 := by
  unfold fewI
  by_cases c : v = 99999
  · rw [if_pos c]; exact ⟨fun _ => c, fun _ => rfl⟩
  · rw [if_neg c]
    refine ⟨fun z => ?_, fun z => absurd z c⟩
    have := congrArg Int32.toInt z
    rw [nI_toInt (by omega), show (-9 : Int32).toInt = -9 from by decide] at this
    omega
theorem fewI_le {v u : Nat} (hv : v ≤ 128) (hu : u ≤ 128) : fewI v ≤ fewI u ↔ v ≤ u := by
  unfold fewI
  rw [if_neg (by omega), if_neg (by omega)]
  exact nI_leI (by omega) (by omega)
theorem stepI {v u : Nat} (hv : v ≤ 128 ∨ v = 99999) (hu : u ≤ 128 ∨ u = 99999) {A B C D : Prop} (hk : ¬ v < u → A ∧ C) (ht : v < u → B ∧ D) : (fewI v = -9 → A) ∧ (¬ fewI v = -9 → ((fewI u = -9 → B) ∧ (¬ fewI u = -9 → ((fewI u ≤ fewI v → C) ∧ (¬ fewI u ≤ fewI v → D))))) := by
  rw [fewI_9 hv, fewI_9 hu]
  refine ⟨fun c => (hk (by omega)).1, fun c => ⟨fun c2 => (ht (by omega)).1, fun c2 => ?_⟩⟩
  rw [fewI_le (by omega) (by omega)]
  exact ⟨fun c3 => (hk (by omega)).2, fun c3 => (ht (by omega)).2⟩
theorem foldW_keep {val : Nat → Nat → Nat} {L0 j : Nat} (h : ¬ val (j / 2) (j % 2) < (foldW val L0 j).1) : foldW val L0 (j + 1) = foldW val L0 j := if_neg h
theorem foldW_take {val : Nat → Nat → Nat} {L0 j : Nat} (h : val (j / 2) (j % 2) < (foldW val L0 j).1) : foldW val L0 (j + 1) = (val (j / 2) (j % 2), nI (10 * (j / 2) + j % 2)) := if_pos h
theorem goW_I {n : Nat} {s : List Nat} {k up : Nat} (hn6 : n ≤ 6) (h6 : pz s k < 6) (hup : up < 2) (hpn : pz s k < n) : (∃ g, goW n s k up = some g ∧ g < n ∧ (nI (pz s k) + (2 : Int32) * nI up) - (1 : Int32) = nI g) ∨ (goW n s k up = none ∧ ((nI (pz s k) + (2 : Int32) * nI up) - (1 : Int32) < 0 ∨ nI n ≤ (nI (pz s k) + (2 : Int32) * nI up) - (1 : Int32))) := by
  rw [show (2 : Int32) * nI up = nI (2 * up) from pk_mul 2 up, nI_add]
  unfold goW
  rw [if_pos h6]
  rcases (show up = 0 ∨ up = 1 by omega) with rfl | rfl
  · rw [if_pos rfl]
    by_cases c : 1 ≤ pz s k
    · rw [if_pos c]
      exact Or.inl ⟨_, rfl, by omega, by rw [show (1 : Int32) = nI 1 from rfl, pk_sub (by omega)]; rfl⟩
    · rw [if_neg c]
      refine Or.inr ⟨rfl, Or.inl ?_⟩
      rw [show pz s k + 2 * 0 = 0 by omega]; decide
  · rw [if_neg (by decide)]
    rw [show (1 : Int32) = nI 1 from rfl, pk_sub (by omega), show pz s k + 2 * 1 - 1 = pz s k + 1 by omega]
    by_cases c : pz s k + 1 < n
    · rw [if_pos c]
      exact Or.inl ⟨_, rfl, c, rfl⟩
    · rw [if_neg c]
      exact Or.inr ⟨rfl, Or.inr (nI_le (by omega) (by omega))⟩
theorem cfewI_spec {n r : Nat} {w b : Nat → Nat} {s : List Nat} {sz : Int32} {st cf hl : Nat → Int32} (hg : StG n r b s) (hL : SearchL (bfs n w s) sz st cf hl) {m v : Nat} (hm : m < 16) (h0 : FvE n w m s v) {P : Int32 → Prop} (hP : P (fewI v)) : wp_X6_firstWith (nI m) sz st (fun i => wp_X6_haltsTo i sz cf P) := by
  unfold fewI at hP
  refine cfew_spec hg hL hm (fun k _ _ hk hf _ _ => ?_) (fun hno => ?_)
  · have := fvE_one h0 (Or.inl ⟨hk, hf⟩)
    subst this
    rw [if_neg (by omega)] at hP
    exact hP
  · have := fvE_one h0 (Or.inr ⟨hno, rfl⟩)
    subst this
    rw [if_pos rfl] at hP
    exact hP
theorem mwalks_spec {n r : Nat} {w b : Nat → Nat} {s : List Nat} {mat mw ms was row now before far : Nat → Int32} (hN : NowOk n r w b s mat mw ms) {val : Nat → Nat → Nat} {L0 : Nat} (h0 : FvE n w (2 ^ r - 1) s L0) (hval : ∀ k up, k < r → up < 2 → WV n r w s k up (val k up))
    {P : Int32 → Int32 → Int32 → (Nat → Int32) → (Nat → Int32) → (Nat → Int32) → (Nat → Int32) → (Nat → Int32) → (Nat → Int32) → (Nat → Int32) → Prop}
    (hP : ∀ u f1 m2 f2 f3 s2 f4 f5, (∀ i, i < 6 → m2 i = mat i) → (∀ i, s2 i = ms i) → P (foldW val L0 (2 * r)).2 0 u f1 m2 f2 f3 s2 f4 f5) : wp_X11_walks (nI n) (nI r) was mat row now ms mw before far P := by
  obtain ⟨hg, hr, hat, hw, hms⟩ := id hN
  have hn6 := hg.1
  have hz := hg.2.pz hn6
  obtain ⟨p16, p16'⟩ := pow_16 hr
  have hv2 : ∀ k up, k < r → up < 2 → val k up ≤ 128 ∨ val k up = 99999 := by
    intro k up hk hup
    rcases hval k up hk hup with ⟨-, a⟩ | ⟨g, -, a⟩
    · exact Or.inr a
    · exact fvE_le a
  have hF := foldW_le (r := r) (fvE_le h0) hv2
  have nov : ∀ k up, k < r → up < 2 → goW n s k up = none → val k up = 99999 := by
    intro k up hk hup e
    rcases hval k up hk hup with ⟨-, a⟩ | ⟨g, a, -⟩
    · exact a
    · rw [e] at a; exact nomatch a
  unfold wp_X11_walks
  rw [rb_I r (by omega)]
  refine fewestOf_spec hN (by omega) (fun v0 v f g h1 h2 far hv0 _ _ _ _ => ?_)
  have := fvE_one h0 hv0
  subst this
  refine kc11 r (fun k x8 x9 x10 _ _ f13 _ _ f16 _ _ => x10 = nI k ∧ x8 = nI (foldW val L0 (2 * k)).1 ∧ x9 = (foldW val L0 (2 * k)).2 ∧ (∀ i, i < 6 → f13 i = mat i) ∧ ∀ i, f16 i = ms i) ⟨rfl, rfl, rfl, fun _ _ => rfl, fun _ => rfl⟩ ?_
  rintro k x8 x9 x10 v11 f12 f13 f14 f15 f16 f17 f18 K hk ⟨rfl, rfl, rfl, h13, h16⟩ hK
  refine pk_le r k (fun c => ?_) (fun c => ?_)
  · have e : k = r := by omega
    subst e
    exact hP _ _ _ _ _ _ _ _ h13 h16
  refine kc11 2 (fun up x20 x21 x22 _ _ f25 _ _ f28 _ _ => x22 = nI up ∧ x20 = nI (foldW val L0 (2 * k + up)).1 ∧ x21 = (foldW val L0 (2 * k + up)).2 ∧ (∀ i, i < 6 → f25 i = mat i) ∧ ∀ i, f28 i = ms i) ⟨rfl, rfl, rfl, h13, h16⟩ ?_
  rintro up x20 x21 x22 v23 f24 f25 f26 f27 f28 f29 f30 K2 hup ⟨rfl, rfl, rfl, h25, h28⟩ hK2
  have hL := hF (2 * k + up) (by omega)
  have e2 : (2 * k + up) / 2 = if up = 2 then k + 1 else k := by split <;> omega
  refine pk_le 2 up (fun c2 x32 e32 => hK c ⟨by rw [e32, nI_1], ?_, ?_, h25, h28⟩) (fun c2 => ⟨vp_in_nI (by omega) (by decide), ?_⟩)
  · have : 2 * k + up = 2 * (k + 1) := by omega
    rw [this]
  · have : 2 * k + up = 2 * (k + 1) := by omega
    rw [this]
  rw [if_neg (by omega)] at e2
  have e3 : (2 * k + up) % 2 = up := by omega
  have skip : val k up = 99999 → foldW val L0 (2 * k + (up + 1)) = foldW val L0 (2 * k + up) := by
    intro z
    refine foldW_keep (j := 2 * k + up) ?_
    rw [e2, e3, z]; omega
  rw [nI_clamp (by omega), h25 k (by omega), hat k (by omega)]
  have h9 := (hz.2 k (by omega)).1
  refine pk_le 6 (pz s k) (fun c6 x35 e35 => hK c ⟨by rw [e35, nI_1], ?_, ?_, h25, h28⟩) (fun c6 => ⟨vp_in_nI (by omega) (by decide), ?_⟩)
  · have no : ∀ u, goW n s k u = none := fun u => by unfold goW; rw [if_neg (by omega)]
    have s1 := skip (nov k up c c2 (no up))
    rcases (show up = 0 ∨ up = 1 by omega) with rfl | rfl
    · have s2 : foldW val L0 (2 * k + 1 + 1) = foldW val L0 (2 * k + 1) := by
        refine foldW_keep ?_
        have z := nov k 1 c (by decide) (no 1)
        have := hF (2 * k + 1) (by omega)
        rw [show (2 * k + 1) / 2 = k by omega, show (2 * k + 1) % 2 = 1 by omega, z]; omega
      rw [show 2 * (k + 1) = 2 * k + 1 + 1 by omega, s2]
      exact congrArg (fun x : Nat × Int32 => nI x.1) s1.symm
    · exact congrArg (fun x : Nat × Int32 => nI x.1) s1.symm
  · have no : ∀ u, goW n s k u = none := fun u => by unfold goW; rw [if_neg (by omega)]
    have s1 := skip (nov k up c c2 (no up))
    rcases (show up = 0 ∨ up = 1 by omega) with rfl | rfl
    · have s2 : foldW val L0 (2 * k + 1 + 1) = foldW val L0 (2 * k + 1) := by
        refine foldW_keep ?_
        have z := nov k 1 c (by decide) (no 1)
        have := hF (2 * k + 1) (by omega)
        rw [show (2 * k + 1) / 2 = k by omega, show (2 * k + 1) % 2 = 1 by omega, z]; omega
      rw [show 2 * (k + 1) = 2 * k + 1 + 1 by omega, s2]
      exact congrArg (fun x : Nat × Int32 => x.2) s1.symm
    · exact congrArg (fun x : Nat × Int32 => x.2) s1.symm
  have hpn : pz s k < n := by
    rcases hg.2.2.1 k (by omega) c with ⟨q, q2⟩ | q | q <;> omega
  rintro x37 rfl
  have hN2 : NowOk n r w b s f25 mw f28 := ⟨hg, hr, fun i hi => (h25 i hi).trans (hat i hi), hw, fun i hi hb => (h28 i).trans (hms i hi hb)⟩
  rcases goW_I hn6 c6 c2 hpn with ⟨g, hgo, hgn, ex⟩ | ⟨hgo, hout⟩
  · rw [ex]
    refine nf_in hn6 hgn (b_no (fewestBy_spec hN2 c hgo (hval k up c c2) (fun u m2 s2 f1 f2 f3 f4 f5 hm2 hs2 => ?_)))
    have hv := hv2 k up c c2
    have m2' : ∀ i, i < 6 → m2 i = mat i := fun i hi => (hm2 i hi).trans (h25 i hi)
    have s2' : ∀ i, s2 i = ms i := fun i => (hs2 i).trans (h28 i)
    refine pk_le (foldW val L0 (2 * k + up)).1 (val k up) (fun c3 => pk_le (foldW val L0 (2 * k + up)).1 (val k up) (fun _ x51 e51 => hK2 c2 ⟨by rw [e51, nI_1], ?_, ?_, m2', s2'⟩) (fun z => by omega)) (fun c3 x53 e53 => pk_le (foldW val L0 (2 * k + up)).1 (val k up) (fun z => by omega) (fun _ x56 e56 => hK2 c2 ⟨by rw [e56, nI_1], ?_, ?_, m2', s2'⟩))
    · rw [show 2 * k + (up + 1) = (2 * k + up) + 1 by omega, foldW_keep (by rw [e2, e3]; omega)]
    · rw [show 2 * k + (up + 1) = (2 * k + up) + 1 by omega, foldW_keep (by rw [e2, e3]; omega)]
    · rw [show 2 * k + (up + 1) = (2 * k + up) + 1 by omega, foldW_take (by rw [e2, e3]; omega), e2, e3]
    · rw [show 2 * k + (up + 1) = (2 * k + up) + 1 by omega, foldW_take (by rw [e2, e3]; omega), e2, e3]
      rw [e53, show (10 : Int32) * nI k = nI (10 * k) from pk_mul 10 k, nI_add]
  · refine nf_out (by omega) hn6 hout (b_yes ?_)
    have s1 := skip (nov k up c c2 hgo)
    refine pk_le (foldW val L0 (2 * k + up)).1 99999 (fun c3 => pk_le (foldW val L0 (2 * k + up)).1 99999 (fun _ x59 e59 => hK2 c2 ⟨by rw [e59, nI_1], by rw [s1], by rw [s1], h25, h28⟩) (fun z => by omega)) (fun c3 => by omega)
theorem s_walks : S_walks := by
  intro sea lst ssz fl sst scf shl lf lr lt lwa lsa v1 v2 v3 v4 ls lw tf tr tst tw ts twa tsa mf mr was mat row now ms mw before far lsz lrow mt mho mfl mh mmade hD
  obtain ⟨n, r, t, h, w, b, HF, HO, HI, s, hC, hS⟩ := hD
  obtain ⟨hg, hr, elf, em, er, emr, elst, hwa, hsa⟩ := hC.st
  have hN := hC.now
  have hn6 := hg.1
  obtain ⟨p16, p16'⟩ := pow_16 hr
  have hlw : ∀ k, k < r → lw k = nI (w k) ∧ w k < n := fun k hk => ⟨hC.2.2.2.2.1.2.2.2.1 k hk, (hC.1.2.2.2.2 k hk).1⟩
  have hls : ∀ k, k < r → b k < n → ls k = nI (b k) := hC.2.2.2.2.1.2.2.2.2.1
  obtain ⟨L0, h0⟩ := fvE_ex (w := w) (m := 2 ^ r - 1) hg
  have ex : ∀ k up, ∃ v, k < r → up < 2 → WV n r w s k up v := by
    intro k up
    by_cases hk : k < r
    · cases hgo : goW n s k up with
      | none => exact ⟨99999, fun _ _ => Or.inl ⟨hgo, rfl⟩⟩
      | some g =>
        obtain ⟨a1, a2, a3, a4, a5⟩ := goW_some hn6 hg hk hr hgo
        obtain ⟨v, hv⟩ := fvE_ex (w := w) (m := 2 ^ r - 1) (walk_ok (w := w) hg hr hk a4)
        exact ⟨v, fun _ _ => Or.inr ⟨g, hgo, hv⟩⟩
    · exact ⟨0, fun z => absurd z hk⟩
  obtain ⟨val, hval⟩ : ∃ val : Nat → Nat → Nat, ∀ k up, k < r → up < 2 → WV n r w s k up (val k up) := ⟨fun k up => Classical.choose (ex k up), fun k up => Classical.choose_spec (ex k up)⟩
  have hv2 : ∀ k up, k < r → up < 2 → val k up ≤ 128 ∨ val k up = 99999 := by
    intro k up hk hup
    rcases hval k up hk hup with ⟨-, a⟩ | ⟨g, -, a⟩
    · exact Or.inr a
    · exact fvE_le a
  have hF := foldW_le (r := r) (fvE_le h0) hv2
  unfold wp_X10_walks
  refine searchAll_spec hC hS (fun sz fl st cf hl v1 v2 v3 v4 hL => ?_)
  unfold wp_X3_riderBits
  rw [er, rb_I r (by omega)]
  refine cfewI_spec hg hL (by omega) h0 ?_
  refine kc20 (2 * r) (fun j x14 x15 x16 v17 v18 _ f20 f21 f22 _ _ _ _ _ _ _ _ _ _ _ => x16 = nI j ∧ x14 = fewI (foldW val L0 j).1 ∧ x15 = (foldW val L0 j).2 ∧ (v17 = 0 ∨ (v17 = 1 ∧ SearchL (bfs n w s) v18 f20 f21 f22))) ⟨rfl, rfl, rfl, Or.inr ⟨rfl, hL⟩⟩ ?_
  rintro j x14 x15 x16 v17 v18 v19 f20 f21 f22 v23 v24 v25 v26 v27 v28 v29 f30 f31 f32 f33 K hj ⟨rfl, rfl, rfl, hse⟩ hK
  rw [show (2 : Int32) * nI r = nI (2 * r) from pk_mul 2 r]
  refine pk_le (2 * r) j (fun c => ?_) (fun c => ?_)
  · have e : j = 2 * r := by omega
    subst e
    rw [← er, em, emr]
    refine mwalks_spec hN h0 hval (fun u f1 m2 f2 f3 s2 f4 f5 hm2 hs2 => ⟨rfl, ?_⟩)
    rw [← em, ← emr]
    exact ⟨n, r, t, h, w, b, HF, HO, HI, s, core_cong hC (fun _ _ => rfl) (fun _ _ => rfl) (fun _ _ => rfl) (fun _ _ => rfl) (fun _ _ => rfl) hm2 (fun _ _ => rfl) (fun k _ => hs2 k) (fun _ _ => rfl), hse⟩
  · have d1 : nI j / (2 : Int32) = nI (j / 2) := pk_div (d := 2) (by omega) (by decide) (by decide)
    have d2 : nI j - nI j / (2 : Int32) * (2 : Int32) = nI (j % 2) := pk_rem (d := 2) (by omega) (by decide) (by decide)
    rw [d2, d1]
    rintro x35 rfl x36 rfl
    have hk : j / 2 < r := by omega
    have hu : j % 2 < 2 := by omega
    have hL0 := hF j (by omega)
    have hv := hv2 (j / 2) (j % 2) hk hu
    have ev : (10 : Int32) * nI (j / 2) + nI (j % 2) = nI (10 * (j / 2) + j % 2) := by rw [show (10 : Int32) * nI (j / 2) = nI (10 * (j / 2)) from pk_mul 10 _, nI_add]
    have keep : ∀ {se sz fl : Int32} {st cf hl : Nat → Int32} {v1 v2 v3 v4 tf tr tst : Int32} {tw ts twa tsa : Nat → Int32}, (se = 0 ∨ (se = 1 ∧ SearchL (bfs n w s) sz st cf hl)) → ¬ val (j / 2) (j % 2) < (foldW val L0 j).1 → ∀ x_57 : Int32, x_57 = nI j + (1 : Int32) → K (fewI (foldW val L0 j).1) (foldW val L0 j).2 x_57 se sz fl st cf hl v1 v2 v3 v4 tf tr tst tw ts twa tsa := by
      intro se sz fl st cf hl v1 v2 v3 v4 tf tr tst tw ts twa tsa hse z x57 e57
      exact hK c ⟨by rw [e57, nI_1], by rw [foldW_keep z], by rw [foldW_keep z], hse⟩
    have post : ∀ {se sz fl : Int32} {st cf hl : Nat → Int32} {v1 v2 v3 v4 tf tr tst : Int32} {tw ts twa tsa : Nat → Int32}, (se = 0 ∨ (se = 1 ∧ SearchL (bfs n w s) sz st cf hl)) → ((fewI (val (j / 2) (j % 2)) = (-9 : Int32) → (∀ x_57 : Int32, x_57 = nI j + (1 : Int32) → K (fewI (foldW val L0 j).1) (foldW val L0 j).2 x_57 se sz fl st cf hl v1 v2 v3 v4 tf tr tst tw ts twa tsa)) ∧ (¬ fewI (val (j / 2) (j % 2)) = (-9 : Int32) → ((fewI (foldW val L0 j).1 = (-9 : Int32) → (∀ x_59 : Int32, x_59 = (((10 : Int32) * nI (j / 2)) + nI (j % 2)) → (∀ x_60 : Int32, x_60 = nI j + (1 : Int32) → K (fewI (val (j / 2) (j % 2))) x_59 x_60 se sz fl st cf hl v1 v2 v3 v4 tf tr tst tw ts twa tsa))) ∧ (¬ fewI (foldW val L0 j).1 = (-9 : Int32) → ((fewI (foldW val L0 j).1 ≤ fewI (val (j / 2) (j % 2)) → (∀ x_62 : Int32, x_62 = nI j + (1 : Int32) → K (fewI (foldW val L0 j).1) (foldW val L0 j).2 x_62 se sz fl st cf hl v1 v2 v3 v4 tf tr tst tw ts twa tsa)) ∧ (¬ fewI (foldW val L0 j).1 ≤ fewI (val (j / 2) (j % 2)) → (∀ x_63 : Int32, x_63 = (((10 : Int32) * nI (j / 2)) + nI (j % 2)) → (∀ x_64 : Int32, x_64 = nI j + (1 : Int32) → K (fewI (val (j / 2) (j % 2))) x_63 x_64 se sz fl st cf hl v1 v2 v3 v4 tf tr tst tw ts twa tsa)))))))) := by
      intro se sz fl st cf hl v1 v2 v3 v4 tf tr tst tw ts twa tsa hse
      have take : val (j / 2) (j % 2) < (foldW val L0 j).1 → ∀ x_59 : Int32, x_59 = (((10 : Int32) * nI (j / 2)) + nI (j % 2)) → ∀ x_60 : Int32, x_60 = nI j + (1 : Int32) → K (fewI (val (j / 2) (j % 2))) x_59 x_60 se sz fl st cf hl v1 v2 v3 v4 tf tr tst tw ts twa tsa := by
        intro z x59 e59 x60 e60
        exact hK c ⟨by rw [e60, nI_1], by rw [foldW_take z], by rw [foldW_take z, e59, ev], hse⟩
      exact stepI hv hL0 (fun z => ⟨keep hse z, keep hse z⟩) (fun z => ⟨take z, take z⟩)
    refine ⟨fun cu => ?_, fun cu => ?_⟩
    · have u0 : j % 2 = 0 := by
        have : j % 2 ≠ 1 := fun z => cu (by rw [z]; rfl)
        omega
      refine cwalk_spec (up := j % 2) (v := val (j / 2) (j % 2)) hg hr elf rfl elst hlw hls hwa hsa hk hu (hval _ _ hk hu) (by rw [if_neg (by omega)]) (fun z => ⟨fun _ => keep hse (by omega), fun q => absurd rfl q⟩) (fun _ _ _ _ _ _ _ _ _ _ _ _ _ _ _ _ => post (Or.inl rfl))
    · have u1 : j % 2 = 1 := (nI_eq (b := 1) (by omega) (by decide)).mp cu
      refine cwalk_spec (up := j % 2) (v := val (j / 2) (j % 2)) hg hr elf rfl elst hlw hls hwa hsa hk hu (hval _ _ hk hu) (by rw [if_pos u1]) (fun z => ⟨fun _ => keep hse (by omega), fun q => absurd rfl q⟩) (fun _ _ _ _ _ _ _ _ _ _ _ _ _ _ _ _ => post (Or.inl rfl))
