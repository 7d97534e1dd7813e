/-! PURE ROWS: a halt is made -/
theorem has_spec {m k : Nat} {P : Int32 → Prop} (hm : m < 64) (hk : k < 6) (h0 : m.testBit k = false → P 0) (h1 : m.testBit k = true → P 1) : wp_X11_has (nI m) (nI k) P := by
  unfold wp_X11_has
  rw [hasB m hm k hk]
  cases c : m.testBit k with
  | false => exact ⟨fun _ => h0 c, fun z => absurd z (by decide)⟩
  | true => exact ⟨fun z => absurd rfl z, fun _ => h1 c⟩
def chgP (s : List Nat) (f o i k : Nat) : Nat := if i.testBit k then 6 else if o.testBit k then (if k < 4 then 7 else f) else pz s k
theorem chgP_eq (s : List Nat) (f o i k : Nat) (hk : k < 6) : pz (chg s f o i) k = chgP s f o i k := chg_pz s f o i k hk
theorem change_spec {s : List Nat} {f o i : Nat} {g : Nat → Int32} {P : (Nat → Int32) → Prop} (ho : o < 64) (hi : i < 64) (hg : ∀ k, k < 6 → g k = nI (pz s k)) (hP : ∀ g, (∀ k, k < 6 → g k = nI (pz (chg s f o i) k)) → P g) : wp_X11_change (nI f) (nI o) (nI i) 6 g P := by
  unfold wp_X11_change
  refine kc2 6 (fun j x g => x = nI j ∧ ∀ k, k < 6 → g k = if k < j then nI (chgP s f o i k) else nI (pz s k)) ⟨rfl, fun k hk => by rw [if_neg (by omega)]; exact hg k hk⟩ ?_
  rintro j x g K hj ⟨rfl, hg⟩ hK
  have keep : ∀ (j : Nat) (v : Int32) (g' : Nat → Int32), j < 6 → v = nI (chgP s f o i j) → (∀ k, k < 6 → k ≠ j → g' k = if k < j then nI (chgP s f o i k) else nI (pz s k)) → g' j = v → ∀ k, k < 6 → g' k = if k < j + 1 then nI (chgP s f o i k) else nI (pz s k) := by
    intro j v g' hj hv h1 h2 k hk
    by_cases c : k = j
    · subst c; rw [if_pos (by omega), h2, hv]
    · rw [h1 k hk c]
      by_cases c2 : k < j
      · rw [if_pos c2, if_pos (by omega)]
      · rw [if_neg c2, if_neg (by omega)]
  refine pk_le 6 j (fun c => hP g (fun k hk => ?_)) (fun c => ?_)
  · rw [hg k hk, if_pos (by omega), chgP_eq _ _ _ _ _ hk]
  · have hcl : (nI j).toNatClampNeg = j := nI_clamp (by omega)
    refine has_spec ho c (fun co => b_no (has_spec hi c (fun ci => b_no (fun x8 e8 => hK c ⟨by rw [e8, nI_1], ?_⟩)) (fun ci => b_yes ⟨vp_in_nI c (by decide), fun f10 e10 x11 e11 => hK c ⟨by rw [e11, nI_1], ?_⟩⟩))) (fun co => b_yes (pk_le 4 j (fun c4 => ⟨vp_in_nI c (by decide), fun f14 e14 => has_spec hi c (fun ci => b_no (fun x17 e17 => hK c ⟨by rw [e17, nI_1], ?_⟩)) (fun ci => b_yes ⟨vp_in_nI c (by decide), fun f19 e19 x20 e20 => hK c ⟨by rw [e20, nI_1], ?_⟩⟩)⟩) (fun c4 => ⟨vp_in_nI c (by decide), fun f22 e22 => has_spec hi c (fun ci => b_no (fun x25 e25 => hK c ⟨by rw [e25, nI_1], ?_⟩)) (fun ci => b_yes ⟨vp_in_nI c (by decide), fun f27 e27 x28 e28 => hK c ⟨by rw [e28, nI_1], ?_⟩⟩)⟩)))
    · refine keep j (g j) g c ?_ (fun k hk _ => hg k hk) rfl
      rw [hg j c, if_neg (by omega)]; simp [chgP, co, ci]
    · rw [hcl] at e10
      exact keep j 6 f10 c (by simp [chgP, ci]; rfl) (fun k hk hn => by rw [e10, pk_un hn]; exact hg k hk) (by rw [e10, pk_us])
    · rw [hcl] at e14
      exact keep j (nI f) f14 c (by simp [chgP, co, ci, show ¬ j < 4 by omega]) (fun k hk hn => by rw [e14, pk_un hn]; exact hg k hk) (by rw [e14, pk_us])
    · rw [hcl] at e14 e19
      exact keep j 6 f19 c (by simp [chgP, ci]; rfl) (fun k hk hn => by rw [e19, pk_un hn, e14, pk_un hn]; exact hg k hk) (by rw [e19, pk_us])
    · rw [hcl] at e22
      exact keep j 7 f22 c (by simp [chgP, co, ci, c4]; rfl) (fun k hk hn => by rw [e22, pk_un hn]; exact hg k hk) (by rw [e22, pk_us])
    · rw [hcl] at e22 e27
      exact keep j 6 f27 c (by simp [chgP, ci]; rfl) (fun k hk hn => by rw [e27, pk_un hn, e22, pk_un hn]; exact hg k hk) (by rw [e27, pk_us])
theorem ofH : ∀ a, a < 6 → ∀ o, o < 64 → ∀ i, i < 64 → (nI a <<< ((12 : Int32) &&& 31) ||| nI o <<< ((6 : Int32) &&& 31)) ||| nI i = nI (a * 4096 + o * 64 + i) := by
  intro a ha o ho i hi
  rw [slA _ 12 (by decide) (by omega), slA _ 6 (by decide) (by omega), fa_or, fa_or]
  congr 1
  have h1 : a * 2 ^ 12 ||| o * 2 ^ 6 = 2 ^ 6 * (a * 64 + o) := by
    rw [Nat.mul_comm a, ← Nat.two_pow_add_eq_or_of_lt (by omega : o * 2 ^ 6 < 2 ^ 12)]; omega
  rw [h1, ← Nat.two_pow_add_eq_or_of_lt hi]; omega
theorem of_spec {a o i : Nat} {P : Int32 → Prop} (ha : a < 6) (ho : o < 64) (hi : i < 64) (hP : P (nI (a * 4096 + o * 64 + i))) : wp_X2_of (nI a) (nI o) (nI i) P := by
  unfold wp_X2_of
  rw [ofH a ha o ho i hi]
  exact hP
theorem mv_of {n : Nat} {w : Nat → Nat} {s : List Nat} {f o i : Nat} (hf : f < n) (h0 : o ≠ 0) (ho : o &&& outM w s f = o) (hi : i &&& inM s f = i) (hp : pop6 i = pop6 o) : mv n w s f (o, i) := by
  have l1 := and_lt64 ho (outM_lt w s f)
  have l2 := and_lt64 hi (inM_lt s f)
  refine ⟨hf, pairs_mem.mpr ⟨subs_mem.mpr ⟨l1, h0, ho⟩, subs_mem.mpr ⟨l2, fun z => h0 ?_, hi⟩, hp⟩⟩
  have z : i = 0 := z
  subst z
  have h : ∀ o, o < 64 → pop6 0 = pop6 o → o = 0 := by decide +kernel
  exact h o l1 hp
theorem hx_of {n : Nat} {w : Nat → Nat} {s : List Nat} {f : Nat} {q : Nat × Nat} (hn : n ≤ 6) (hm : mv n w s f q) (k : Nat) (hi : q.2.testBit k = true) : pz s k ≠ 7 ∧ q.1.testBit k = false := by
  obtain ⟨-, -, ho, hi2, -⟩ := mv_bits hm
  have h1 := (hi2 k hi).2
  have := hm.1
  refine ⟨by omega, ?_⟩
  cases c : q.1.testBit k with
  | false => rfl
  | true => have := (ho k c).2.1; omega
theorem hoN_cong {F G : Nat → Nat} : ∀ {h : Nat}, (∀ i, i < h → F i = G i) → hoN F h = hoN G h
  | 0, _ => rfl
  | h + 1, e => e h (Nat.lt_succ_self h)
theorem flN_cong {F G : Nat → Nat} : ∀ {h : Nat}, (∀ i, i < h → F i = G i) → flN F h = flN G h
  | 0, _ => rfl
  | h + 1, e => by
    have e1 := flN_cong (F := F) (G := G) (h := h) (fun i hi => e i (by omega))
    have e2 := hoN_cong (F := F) (G := G) (h := h) (fun i hi => e i (by omega))
    have e3 := e h (Nat.lt_succ_self h)
    show flN F h + _ = flN G h + _
    rw [e1, e2, e3]
def setN (F : Nat → Nat) (h v : Nat) : Nat → Nat := fun i => if i = h then v else F i
theorem setN_eq (F : Nat → Nat) (h v : Nat) : setN F h v h = v := if_pos rfl
theorem setN_ne (F : Nat → Nat) {h i : Nat} (v : Nat) (c : i ≠ h) : setN F h v i = F i := if_neg c
section CORE
variable {n r t h : Nat} {w b HF HO HI : Nat → Nat} {s : List Nat} {lf lr lt lst lsz : Int32} {lw ls lwa lsa lrow : Nat → Int32} {mf mr mt mho mfl mh : Int32} {mat mw ms mmade : Nat → Int32}
theorem core_step (hC : Core n r t h w b HF HO HI s lf lr lt lst lsz lw ls lwa lsa lrow mf mr mt mho mfl mh mat mw ms mmade) {f o e : Nat} (hm : mv n w s f (o, e)) (h24 : h < 24) {row2 mat2 made2 : Nat → Int32}
    (hrow : ∀ j, row2 j = if j = h then nI (f * 4096 + o * 64 + e) else lrow j) (hmat : ∀ k, k < 6 → mat2 k = nI (pz (chg s f o e) k))
    (hmade : ∀ j, made2 j = if j = 4 * h then nI f else if j = 4 * h + 1 then nI o else if j = 4 * h + 2 then nI e else if j = 4 * h + 3 then mho else mmade j) :
    Core n r t (h + 1) w b (setN HF h f) (setN HO h o) (setN HI h e) (chg s f o e) lf lr lt (nI (encS (chg s f o e))) (nI (h + 1)) lw ls lwa lsa row2 mf mr mt (nI f) (nI (flN HF h + (if hoN HF h < f then f - hoN HF h else hoN HF h - f))) (nI (h + 1)) mat2 mw ms made2 := by
  obtain ⟨hH, hS, hSt, hR, hL, -, -, hr0, hM, hat, -, e1, -, hm0⟩ := hC
  obtain ⟨h1, S, hS0, hR⟩ := hR
  have hg : StG n r b s := ⟨hH.2.1, hS⟩
  have hg2 := mv_ok hg hm
  have hk8 := ((Kin.rf w s).mv hg hm).2.2
  have hf := hm.1
  obtain ⟨-, hq⟩ := hm
  obtain ⟨q1, q2, q3⟩ := pairs_mem.mp hq
  refine ⟨hH, hg2.2, fun j hj => (hk8 (4 + j) (by omega) (by omega)).symm.trans (hSt j hj), ⟨by omega, fun k => if k ≤ h then S k else chg s f o e, if_neg (by omega), fun k hk => ?_⟩, hL, rfl, rfl, fun j hj => ?_, hM, hmat, rfl, ?_, ?_, fun j hj => ?_⟩
  · dsimp only
    by_cases c : k = h
    · subst c
      rw [setN_eq, setN_eq, setN_eq, if_pos (Nat.le_refl k), if_neg (by omega), hS0]
      exact ⟨hf, (subs_mem.mp q1).2.2, (subs_mem.mp q2).2.2, rfl, hS, hSt⟩
    · rw [setN_ne _ _ c, setN_ne _ _ c, setN_ne _ _ c, if_pos (by omega), if_pos (by omega)]
      exact hR k (by omega)
  · rw [hrow]
    by_cases c : j = h
    · subst c
      rw [setN_eq, setN_eq, setN_eq, if_pos rfl]
    · rw [setN_ne _ _ c, setN_ne _ _ c, setN_ne _ _ c, if_neg c]
      exact hr0 j (by omega)
  · show nI f = nI (setN HF h f h)
    rw [setN_eq]
  · show _ = nI (flN (setN HF h f) h + (if hoN (setN HF h f) h < setN HF h f h then setN HF h f h - hoN (setN HF h f) h else hoN (setN HF h f) h - setN HF h f h))
    rw [setN_eq, flN_cong (F := setN HF h f) (G := HF) (fun i hi => setN_ne _ _ (by omega)), hoN_cong (F := setN HF h f) (G := HF) (fun i hi => setN_ne _ _ (by omega))]
  · rw [hmade, hmade, hmade, hmade]
    by_cases c : j = h
    · subst c
      rw [setN_eq, setN_eq, setN_eq, if_pos rfl, if_neg (by omega), if_pos rfl, if_neg (by omega), if_neg (by omega), if_pos rfl, if_neg (by omega), if_neg (by omega), if_neg (by omega), if_pos rfl, e1, hoN_cong (F := setN HF j f) (G := HF) (fun i hi => setN_ne _ _ (by omega))]
      exact ⟨rfl, rfl, rfl, rfl⟩
    · rw [setN_ne _ _ c, setN_ne _ _ c, setN_ne _ _ c, if_neg (by omega), if_neg (by omega), if_neg (by omega), if_neg (by omega), if_neg (by omega), if_neg (by omega), if_neg (by omega), if_neg (by omega), if_neg (by omega), if_neg (by omega), if_neg (by omega), if_neg (by omega), if_neg (by omega), if_neg (by omega), if_neg (by omega), if_neg (by omega), hoN_cong (F := setN HF h f) (G := HF) (fun i hi => setN_ne _ _ (by omega))]
      exact hm0 j (by omega)
/-- the reference's halt -/
theorem goHalt_spec (hC : Core n r t h w b HF HO HI s lf lr lt lst lsz lw ls lwa lsa lrow mf mr mt mho mfl mh mat mw ms mmade) {f o e : Nat} (hm : mv n w s f (o, e)) (h24 : h < 24) {P : Int32 → Int32 → Int32 → (Nat → Int32) → (Nat → Int32) → Prop}
    (hP : ∀ mat2 made2, (∀ k, k < 6 → mat2 k = nI (pz (chg s f o e) k)) → (∀ j, made2 j = if j = 4 * h then nI f else if j = 4 * h + 1 then nI o else if j = 4 * h + 2 then nI e else if j = 4 * h + 3 then mho else mmade j) → P (nI f) (nI (flN HF h + (if hoN HF h < f then f - hoN HF h else hoN HF h - f))) (nI (h + 1)) made2 mat2) :
    wp_X11_goHalt (nI f) (nI o) (nI e) mho mfl mh mmade mat P := by
  obtain ⟨hH, -, -, hR, -, -, -, -, -, hat, emh, emo, emf, -⟩ := hC
  obtain ⟨l1, l2, -⟩ := mv_bits hm
  have hf := hm.1
  have hn6 := hH.2.1
  have hlt := hR.lt
  obtain ⟨f1, f2⟩ := flN_le hn6 (fun i hi => (hlt i hi).1) h (Nat.le_refl h)
  unfold wp_X11_goHalt
  have e0 : (4 : Int32) * mh = nI (4 * h) := by rw [emh]; exact pk_mul 4 h
  have e1 : (4 : Int32) * mh + (1 : Int32) = nI (4 * h + 1) := by rw [e0]; exact nI_add _ 1
  have e2 : (4 : Int32) * mh + (2 : Int32) = nI (4 * h + 2) := by rw [e0]; exact nI_add _ 2
  have e3 : (4 : Int32) * mh + (3 : Int32) = nI (4 * h + 3) := by rw [e0]; exact nI_add _ 3
  rw [e1, e2, e3, e0, nI_clamp (by omega), nI_clamp (by omega), nI_clamp (by omega), nI_clamp (by omega)]
  refine ⟨vp_in_nI (by omega) (by decide), fun g2 e2 => ⟨vp_in_nI (by omega) (by decide), fun g4 e4 => ⟨vp_in_nI (by omega) (by decide), fun g6 e6 => ⟨vp_in_nI (by omega) (by decide), fun g8 e8 x9 e9 => ?_⟩⟩⟩⟩
  have em : ∀ j, g8 j = if j = 4 * h then nI f else if j = 4 * h + 1 then nI o else if j = 4 * h + 2 then nI e else if j = 4 * h + 3 then mho else mmade j := by
    intro j
    rw [e8]
    by_cases c3 : j = 4 * h + 3
    · subst c3
      rw [pk_us, if_neg (by omega), if_neg (by omega), if_neg (by omega), if_pos rfl]
    · rw [pk_un c3, e6]
      by_cases c2 : j = 4 * h + 2
      · subst c2
        rw [pk_us, if_neg (by omega), if_neg (by omega), if_pos rfl]
      · rw [pk_un c2, e4]
        by_cases c1 : j = 4 * h + 1
        · subst c1
          rw [pk_us, if_neg (by omega), if_pos rfl]
        · rw [pk_un c1, e2]
          by_cases c0 : j = 4 * h
          · subst c0
            rw [pk_us, if_pos rfl]
          · rw [pk_un c0, if_neg c0, if_neg c1, if_neg c2, if_neg c3]
  have e9 : x9 = nI (h + 1) := by rw [e9, emh, nI_1]
  subst e9
  rw [emo, emf]
  refine pk_le f (hoN HF h) (fun c x11 e11 => change_spec l1 l2 hat (fun g hg => ?_)) (fun c x13 e13 => change_spec l1 l2 hat (fun g hg => ?_))
  · have := hP g g8 hg em
    rw [if_neg (by omega)] at this
    rw [e11, pk_sub c, nI_add]
    exact this
  · have := hP g g8 hg em
    rw [if_pos c] at this
    rw [e13, pk_sub (by omega), nI_add]
    exact this
/-- the class's halt -/
theorem add_spec (hC : Core n r t h w b HF HO HI s lf lr lt lst lsz lw ls lwa lsa lrow mf mr mt mho mfl mh mat mw ms mmade) {f o e : Nat} (hm : mv n w s f (o, e)) (h24 : h < 24) {P : Int32 → Int32 → (Nat → Int32) → Prop}
    (hP : ∀ row2, (∀ j, row2 j = if j = h then nI (f * 4096 + o * 64 + e) else lrow j) → P (nI (encS (chg s f o e))) (nI (h + 1)) row2) : wp_X5_add (nI f) (nI o) (nI e) lst lsz lrow P := by
  obtain ⟨hH, hS, -, hR, -, est, esz, -⟩ := hC
  subst est esz
  obtain ⟨l1, l2, -⟩ := mv_bits hm
  have hf := hm.1
  have hn6 := hH.2.1
  unfold wp_X5_add
  refine pk_le 24 h (fun c => by omega) (fun c => after_enc (hS.pz hn6) (by omega) l1 l2 (fun k _ hk => hx_of hn6 hm k hk) (of_spec (by omega) l1 l2 (put_in c (by decide) (fun x5 e5 => ?_))))
  rw [e5, nI_1]
  refine hP _ (fun j => ?_)
  by_cases q : j = h
  · subst q; rw [pk_us, if_pos rfl]
  · rw [pk_un q, if_neg q]
end CORE
/-- any number: a set of so few bits, or none of it -/
theorem set_cases (x : Int32) : (∃ o : Nat, o < 2 ^ 31 ∧ x = nI o) ∨ x < 0 := by
  by_cases c : x < 0
  · exact Or.inr c
  · exact Or.inl (nI_of c)
theorem andn_0 {o m : Nat} (ho : o < 2 ^ 31) : nI o &&& (nI m ^^^ (-1 : Int32)) = 0 ↔ o &&& m = o := by
  rw [nI_andn]
  have hl : andn o m < 2 ^ 31 := Nat.xor_lt_two_pow (n := 31) ho (Nat.lt_of_le_of_lt Nat.and_le_left ho)
  rw [show (0 : Int32) = nI 0 from rfl, nI_eq hl (by decide)]
  unfold andn
  constructor
  · intro z
    have h : (o ^^^ (o &&& m)) ^^^ (o &&& m) = 0 ^^^ (o &&& m) := by rw [z]
    rw [Nat.xor_assoc, Nat.xor_self, Nat.xor_zero, Nat.zero_xor] at h
    exact h.symm
  · intro z
    rw [z, Nat.xor_self]
theorem andn_neg {x : Int32} {m : Nat} (hm : m < 64) (h : x < 0) : ¬ x &&& (nI m ^^^ (-1 : Int32)) = 0 := by
  intro z
  have hb : x.toBitVec.getLsbD 31 = true := by
    rw [Int32.lt_iff_toInt_lt] at h
    have e0 : (0 : Int32).toInt = 0 := by decide
    rw [e0] at h
    have : x.toBitVec.msb = true := by
      rw [BitVec.msb_eq_toInt]
      simpa using h
    simpa [BitVec.msb_eq_getLsbD_last] using this
  have hz := congrArg (fun y : Int32 => y.toBitVec.getLsbD 31) z
  have e : (x &&& (nI m ^^^ (-1 : Int32))).toBitVec = x.toBitVec &&& (BitVec.ofNat 32 m ^^^ BitVec.allOnes 32) := rfl
  simp only [e, BitVec.getLsbD_and, BitVec.getLsbD_xor, hb, BitVec.getLsbD_allOnes, BitVec.getLsbD_ofNat] at hz
  rw [Nat.testBit_lt_two_pow (i := 31) (Nat.lt_of_lt_of_le hm (by decide))] at hz
  revert hz
  decide
