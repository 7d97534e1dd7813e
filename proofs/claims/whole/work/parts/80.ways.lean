/-! PURE ROWS: ways, by then: sums -/
theorem sm_zero : ∀ n, fb_sm (fun _ => 0) n = 0
  | 0 => rfl
  | n + 1 => by rw [fb_sm_succ, sm_zero n]
theorem sm_swap (g : Nat → Nat → Nat) (N : Nat) : ∀ M, fb_sm (fun c => fb_sm (g c) N) M = fb_sm (fun i => fb_sm (fun c => g c i) M) N
  | 0 => (sm_zero N).symm
  | M + 1 => by
    rw [fb_sm_succ, sm_swap g N M, ← fb_sm_add]
    rfl
theorem sm_pick (a v : Nat) : ∀ M, fb_sm (fun c => if c = a then v else 0) M = if a < M then v else 0
  | 0 => rfl
  | M + 1 => by
    rw [fb_sm_succ, sm_pick a v M]
    by_cases c : M = a
    · subst c; rw [if_neg (Nat.lt_irrefl M), if_pos rfl, if_pos (Nat.lt_succ_self M), Nat.zero_add]
    · rw [if_neg c, Nat.add_zero]
      by_cases c2 : a < M
      · rw [if_pos c2, if_pos (by omega)]
      · rw [if_neg c2, if_neg (by omega)]
theorem sm_mulc (f : Nat → Nat) (c : Nat) : ∀ n, fb_sm (fun i => c * f i) n = c * fb_sm f n
  | 0 => rfl
  | n + 1 => by rw [fb_sm_succ, fb_sm_succ, sm_mulc f c n, Nat.mul_add]
theorem sm_mulr (f : Nat → Nat) (c : Nat) : ∀ n, fb_sm (fun i => f i * c) n = fb_sm f n * c
  | 0 => (Nat.zero_mul c).symm
  | n + 1 => by rw [fb_sm_succ, fb_sm_succ, sm_mulr f c n, Nat.add_mul]
theorem sm_one {cd : Nat → Nat} {N c i0 : Nat} (a : Nat → Nat) (hinj : ∀ i j, i < N → j < N → cd i = cd j → i = j) (h0 : i0 < N) (hc : cd i0 = c) : fb_sm (fun i => if cd i = c then a i else 0) N = a i0 := by
  have h := sm_pick i0 (a i0) N
  rw [if_pos h0] at h
  rw [← h]
  refine fb_sm_cong (fun i hi => ?_)
  by_cases q : i = i0
  · subst q; rw [if_pos hc, if_pos rfl]
  · rw [if_neg q, if_neg (fun z => q (hinj i i0 hi h0 (z.trans hc.symm)))]
theorem sm_none {cd : Nat → Nat} {N c : Nat} (a : Nat → Nat) (h : ∀ i, i < N → cd i = c → a i = 0) : fb_sm (fun i => if cd i = c then a i else 0) N = 0 := by
  have e : fb_sm (fun i => if cd i = c then a i else 0) N = fb_sm (fun _ => 0) N := by
    refine fb_sm_cong (fun i hi => ?_)
    by_cases q : cd i = c
    · rw [if_pos q, h i hi q]
    · rw [if_neg q]
  rw [e, sm_zero]
theorem cnt_sum (N : Nat) : ∀ l : List Nat, fb_sm (fun t => l.count t) N ≤ l.length
  | [] => by
    have : fb_sm (fun t => List.count t ([] : List Nat)) N = 0 := sm_zero N
    rw [this]; exact Nat.le_refl _
  | a :: l => by
    have h := cnt_sum N l
    have e : fb_sm (fun t => (a :: l).count t) N = fb_sm (fun t => l.count t) N + fb_sm (fun t => if t = a then 1 else 0) N := by
      rw [← fb_sm_add]
      refine fb_sm_cong (fun t _ => ?_)
      rw [List.count_cons]
      by_cases q : t = a
      · subst q; simp
      · rw [if_neg q, if_neg (by simpa using Ne.symm q)]
    rw [e, sm_pick, List.length_cons]
    split <;> omega
theorem cnt_map {cd : Nat → Nat} {N d : Nat} : ∀ l : List Nat, (∀ t ∈ l, t < N) → fb_sm (fun t => if cd t = d then l.count t else 0) N = (l.map cd).count d
  | [], _ => by
    have e : fb_sm (fun t => if cd t = d then List.count t ([] : List Nat) else 0) N = fb_sm (fun _ => 0) N := fb_sm_cong (fun t _ => by split <;> rfl)
    rw [e, sm_zero]; rfl
  | a :: l, h => by
    have ha := h a List.mem_cons_self
    have ih := cnt_map (cd := cd) (d := d) l (fun t ht => h t (List.mem_cons_of_mem _ ht))
    have e : fb_sm (fun t => if cd t = d then (a :: l).count t else 0) N = fb_sm (fun t => if cd t = d then l.count t else 0) N + fb_sm (fun t => if t = a then (if cd a = d then 1 else 0) else 0) N := by
      rw [← fb_sm_add]
      refine fb_sm_cong (fun t _ => ?_)
      rw [List.count_cons]
      by_cases q : t = a
      · subst q
        by_cases q2 : cd t = d <;> simp [q2]
      · rw [if_neg q, if_neg (show ¬ (a == t) = true by simpa using Ne.symm q)]
        rfl
    rw [e, ih, sm_pick, if_pos ha, List.map_cons, List.count_cons]
    by_cases q2 : cd a = d
    · rw [if_pos q2, if_pos (by simpa using q2)]
    · rw [if_neg q2, if_neg (by simpa using q2)]
/-! where a state stands in the row -/
def stL (L : List Met1) (i : Nat) : List Nat := (L.getD i ([], 0, 0, 0, 0)).1
def cdL (L : List Met1) (i : Nat) : Nat := codeN (stL L i)
def ixL : List Met1 → List Nat → Nat
  | [], _ => 0
  | e :: L, s => if e.1 == s then 0 else ixL L s + 1
theorem ix_spec : ∀ {L : List Met1} {i : Nat} {e : Met1}, dif L → L[i]? = some e → ixL L e.1 = i
  | [], i, e, _, h => by simp at h
  | a :: L, 0, e, _, h => by
    have h : a = e := by simpa using h
    subst h
    exact if_pos (beq_self_eq_true _)
  | a :: L, i + 1, e, hd, h => by
    have h : L[i]? = some e := by simpa using h
    have hd' : a.1 ≠ e.1 ∧ dif L := ⟨(List.pairwise_cons.mp hd).1 e (List.mem_of_getElem? h), (List.pairwise_cons.mp hd).2⟩
    show (if a.1 == e.1 then 0 else ixL L e.1 + 1) = i + 1
    rw [if_neg (by simpa using hd'.1), ix_spec hd'.2 h]
theorem stL_at {L : List Met1} {i : Nat} {e : Met1} (h : L[i]? = some e) : stL L i = e.1 := by unfold stL; rw [getD_at h]
def tlL (w : Nat → Nat) (L : List Met1) (f k i : Nat) : List Nat := ((pairs (outM w (stL L i) f) (inM (stL L i) f)).filter fun q => pop6 q.1 == k).map fun q => ixL L (chg (stL L i) f q.1 q.2)
def stpV (w : Nat → Nat) (L : List Met1) (f k : Nat) (W : Nat → Nat) (t : Nat) : Nat := fb_sm (fun i => W i * (tlL w L f k i).count t) L.length
def wysV (w : Nat → Nat) (L : List Met1) (SF SN : Nat → Nat) : Nat → Nat → Nat
  | 0, t => if t = 0 then 1 else 0
  | j + 1, t => stpV w L (SF j) (SN j) (wysV w L SF SN j) t
def vvL (L : List Met1) (W : Nat → Nat) (c : Nat) : Nat := fb_sm (fun i => if cdL L i = c then W i else 0) L.length
theorem bit_ex : ∀ y, y < 64 → y ≠ 0 → ∃ k, k < 6 ∧ y.testBit k = true := by decide +kernel
section WAYS
variable {n r : Nat} {w b : Nat → Nat} {s0 : List Nat} {L : List Met1}
theorem pairs_mv6 {s : List Nat} {f : Nat} (hg : StG n r b s) (hf : f < 6) : ∀ q ∈ pairs (outM w s f) (inM s f), mv n w s f q := by
  intro q hq
  obtain ⟨-, h2, -⟩ := pairs_mem.mp hq
  obtain ⟨c1, c2, c3⟩ := subs_mem.mp h2
  obtain ⟨k, hk, hb⟩ := bit_ex _ c1 c2
  have hp := (inM_tb (and_sub_tb c3 hb)).2
  obtain ⟨hn6, -, a1, a2, a3⟩ := hg
  refine ⟨?_, hq⟩
  by_cases c : k < 4
  · by_cases hr : k < r
    · rcases a1 k c hr with ⟨z, z2⟩ | z | z <;> omega
    · have := a2 k c (by omega); omega
  · rcases a3 k (by omega) hk with z | z | z <;> omega
theorem StG.up {s : List Nat} (hg : StG n r b s) : StG 6 r b s := by
  obtain ⟨hn6, hl, a1, a2, a3⟩ := hg
  refine ⟨Nat.le_refl 6, hl, fun k hk hr => ?_, a2, fun k h4 h6 => ?_⟩
  · rcases a1 k hk hr with ⟨z, z2⟩ | z
    · exact Or.inl ⟨z, by omega⟩
    · exact Or.inr z
  · rcases a3 k h4 h6 with z | z
    · exact Or.inl (by omega)
    · exact Or.inr z
theorem tl_lt (hG : Gd n r w b s0 L) (hc : ClosedL n w L) {f k i : Nat} (hf : f < 6) (hi : i < L.length) : ∀ q, q ∈ pairs (outM w (stL L i) f) (inM (stL L i) f) → ∃ y, L[ixL L (chg (stL L i) f q.1 q.2)]? = some y ∧ y.1 = chg (stL L i) f q.1 q.2 := by
  intro q hq
  have hp : L[i]? = some L[i] := List.getElem?_eq_getElem hi
  have es := stL_at hp
  rw [es] at hq ⊢
  have hg := (hG.2 _ (List.mem_of_getElem? hp)).1
  obtain ⟨y, hy, ey⟩ := hc _ (List.mem_of_getElem? hp) f q (pairs_mv6 hg hf q hq)
  obtain ⟨j, hj⟩ := List.getElem?_of_mem hy
  have := ix_spec hG.1 hj
  rw [ey] at this
  rw [this]
  exact ⟨y, hj, ey⟩
theorem tl_all (hG : Gd n r w b s0 L) (hc : ClosedL n w L) {f k i : Nat} (hf : f < 6) (hi : i < L.length) : ∀ t ∈ tlL w L f k i, t < L.length := by
  intro t ht
  obtain ⟨q, hq, rfl⟩ := List.mem_map.mp ht
  obtain ⟨y, hy, -⟩ := tl_lt hG hc (k := k) hf hi q (List.mem_filter.mp hq).1
  exact (List.getElem?_eq_some_iff.mp hy).1
theorem tl_map (hG : Gd n r w b s0 L) (hc : ClosedL n w L) {f k i : Nat} (hf : f < 6) (hi : i < L.length) : (tlL w L f k i).map (cdL L) = ((pairs (outM w (stL L i) f) (inM (stL L i) f)).filter fun q => pop6 q.1 == k).map fun q => codeN (chg (stL L i) f q.1 q.2) := by
  unfold tlL
  rw [List.map_map]
  refine List.map_congr_left (fun q hq => ?_)
  obtain ⟨y, hy, ey⟩ := tl_lt hG hc (k := k) hf hi q (List.mem_filter.mp hq).1
  show codeN (stL L _) = _
  rw [stL_at hy, ey]
theorem cd_inj (hG : Gd n r w b s0 L) : ∀ i j, i < L.length → j < L.length → cdL L i = cdL L j → i = j := by
  intro i j hi hj h
  have pi : L[i]? = some L[i] := List.getElem?_eq_getElem hi
  have pj : L[j]? = some L[j] := List.getElem?_eq_getElem hj
  by_cases q : i = j
  · exact q
  · unfold cdL at h
    rw [stL_at pi, stL_at pj] at h
    exact absurd h (code_ne hG pi pj q)
theorem vv_step (hG : Gd n r w b s0 L) (hc : ClosedL n w L) {f k : Nat} (hf : f < 6) (W : Nat → Nat) (d : Nat) : vvL L (stpV w L f k W) d = fb_sm (fun i => W i * ((tlL w L f k i).map (cdL L)).count d) L.length := by
  unfold vvL stpV
  have e : fb_sm (fun t => if cdL L t = d then fb_sm (fun i => W i * (tlL w L f k i).count t) L.length else 0) L.length = fb_sm (fun t => fb_sm (fun i => W i * (if cdL L t = d then (tlL w L f k i).count t else 0)) L.length) L.length := by
    refine fb_sm_cong (fun t _ => ?_)
    by_cases q : cdL L t = d
    · rw [if_pos q]; exact fb_sm_cong (fun i _ => by rw [if_pos q])
    · rw [if_neg q]
      have : fb_sm (fun i => W i * (if cdL L t = d then (tlL w L f k i).count t else 0)) L.length = fb_sm (fun _ => 0) L.length := fb_sm_cong (fun i _ => by rw [if_neg q, Nat.mul_zero])
      rw [this, sm_zero]
  rw [e, sm_swap (fun t i => W i * (if cdL L t = d then (tlL w L f k i).count t else 0))]
  refine fb_sm_cong (fun i hi => ?_)
  rw [sm_mulc, cnt_map _ (tl_all hG hc hf hi)]
theorem wys_sum (hG : Gd n r w b s0 L) {SF SN : Nat → Nat} {m : Nat} (hSF : ∀ j, j < m → SF j < 6) : ∀ j, j ≤ m → fb_sm (wysV w L SF SN j) L.length ≤ 20 ^ j
  | 0, _ => by
    show fb_sm (fun t => if t = 0 then 1 else 0) L.length ≤ 1
    rw [sm_pick]
    split <;> omega
  | j + 1, hj => by
    have ih := wys_sum hG (SN := SN) hSF j (by omega)
    have e : fb_sm (wysV w L SF SN (j + 1)) L.length = fb_sm (fun t => fb_sm (fun i => wysV w L SF SN j i * (tlL w L (SF j) (SN j) i).count t) L.length) L.length := rfl
    rw [e, sm_swap (fun t i => wysV w L SF SN j i * (tlL w L (SF j) (SN j) i).count t)]
    have le : fb_sm (fun i => fb_sm (fun t => wysV w L SF SN j i * (tlL w L (SF j) (SN j) i).count t) L.length) L.length ≤ fb_sm (fun i => wysV w L SF SN j i * 20) L.length := by
      refine fb_sm_le (fun i hi => ?_)
      rw [sm_mulc]
      refine Nat.mul_le_mul_left _ (Nat.le_trans (cnt_sum _ _) ?_)
      unfold tlL
      rw [List.length_map]
      refine Nat.le_trans (List.length_filter_le _ _) (Nat.le_of_lt (pairs_chain (outM_lt _ _ _) (inM_lt _ _) (out_in_dis _ _ (hSF j (by omega)))).2)
    rw [sm_mulr] at le
    rw [Nat.pow_succ]
    exact Nat.le_trans le (Nat.mul_le_mul_right 20 ih)
theorem wys_lt (hG : Gd n r w b s0 L) {SF SN : Nat → Nat} {m : Nat} (hm : m ≤ 8) (hSF : ∀ j, j < m → SF j < 6) {j i : Nat} (hj : j ≤ m) (hi : i < L.length) : wysV w L SF SN j i < 2 ^ 63 := by
  have h1 := wys_sum hG (SN := SN) hSF j hj
  have h2 := fb_sm_part (wysV w L SF SN j) hi
  have h3 : 20 ^ j ≤ 20 ^ 8 := Nat.pow_le_pow_right (by decide) (by omega)
  have h4 : 20 ^ 8 < 2 ^ 63 := by decide
  omega
theorem vv_lt (hG : Gd n r w b s0 L) {SF SN : Nat → Nat} {m : Nat} (hm : m ≤ 8) (hSF : ∀ j, j < m → SF j < 6) {j c : Nat} (hj : j ≤ m) : vvL L (wysV w L SF SN j) c < 2 ^ 63 := by
  have h1 := wys_sum hG (SN := SN) hSF j hj
  have h2 : vvL L (wysV w L SF SN j) c ≤ fb_sm (wysV w L SF SN j) L.length := fb_sm_le (fun i _ => by split <;> omega)
  have h3 : 20 ^ j ≤ 20 ^ 8 := Nat.pow_le_pow_right (by decide) (by omega)
  have h4 : 20 ^ 8 < 2 ^ 63 := by decide
  omega
/-! long rows -/
theorem atL_in {f : Nat → Int64} {N j : Nat} {P : Int64 → Prop} (hj : j < N) (hn : N < 2 ^ 31) (h : P (f j)) : wp_X10_at_ (nI j) N f P := by
  unfold wp_X10_at_
  refine ⟨fun c => absurd c (nI_pos (by omega)), fun _ => ⟨fun c => ?_, fun _ => ⟨vp_in_nI hj hn, ?_⟩⟩⟩
  · exact absurd ((nI_leI (a := N) hn (by omega)).mp c) (by omega)
  · rw [nI_clamp (by omega)]; exact h
theorem putL_in {f : Nat → Int64} {N j : Nat} {v : Int64} {P : (Nat → Int64) → Prop} (hj : j < N) (hn : N < 2 ^ 31) (h : P (vp_updL f j v)) : wp_X10_put_ (nI j) v N f P := by
  unfold wp_X10_put_
  refine ⟨fun c => absurd c (nI_pos (by omega)), fun _ => ⟨fun c => ?_, fun _ => ⟨vp_in_nI hj hn, ?_⟩⟩⟩
  · exact absurd ((nI_leI (a := N) hn (by omega)).mp c) (by omega)
  · intro g hg
    rw [nI_clamp (by omega)] at hg
    rw [hg]; exact h
theorem fillL_spec {f : Nat → Int64} {v : Int64} {N : Nat} {P : (Nat → Int64) → Prop} (hN : N < 2 ^ 31) (hP : ∀ g, (∀ k, k < N → g k = v) → P g) : wp_J7_fill_d0a16 v N f P := by
  unfold wp_J7_fill_d0a16
  intro x1 e1
  have e1 : x1 = nI N := e1
  subst e1
  refine kc2 N (fun j x g => x = nI j ∧ ∀ k, k < j → g k = v) ⟨rfl, fun k h => absurd h (Nat.not_lt_zero k)⟩ ?_
  rintro j x g K hj ⟨rfl, hg⟩ hK
  refine pk_le N j (fun c => hP g (fun k hk => hg k (by omega))) (fun c => ⟨vp_in_nI c hN, fun f6 e6 x7 e7 => hK c ⟨by rw [e7, nI_1], fun k hk => ?_⟩⟩)
  rw [nI_clamp (by omega)] at e6
  rw [e6]
  by_cases q : k = j
  · subst q; rw [pk_uLs]
  · rw [pk_uLn q]; exact hg k (by omega)
theorem clearL {f : Nat → Int64} {P : (Nat → Int64) → Prop} (hP : ∀ g, (∀ k, k < 3969 → g k = 0) → P g) : kl2 (fun (x_13 : Int32) (f_14 : Nat → Int64) K47 => (((3969 : Int32) ≤ x_13 → P f_14) ∧ (¬ (3969 : Int32) ≤ x_13 → (vp_in x_13 3969 ∧ (∀ f_41 : Nat → Int64, f_41 = (vp_updL f_14 x_13.toNatClampNeg (0 : Int64)) → (∀ x_42 : Int32, x_42 = x_13 + (1 : Int32) → K47 x_42 f_41)))))) (0 : Int32) f := by
  refine kc2 3969 (fun j x g => x = nI j ∧ ∀ k, k < j → g k = 0) ⟨rfl, fun k h => absurd h (Nat.not_lt_zero k)⟩ ?_
  rintro j x g K hj ⟨rfl, hg⟩ hK
  refine pk_le 3969 j (fun c => hP g (fun k hk => hg k (by omega))) (fun c => ⟨vp_in_nI c (by decide), fun f6 e6 x7 e7 => hK c ⟨by rw [e7, nI_1], fun k hk => ?_⟩⟩)
  rw [nI_clamp (by omega)] at e6
  rw [e6]
  by_cases q : k = j
  · subst q; rw [pk_uLs]
  · rw [pk_uLn q]; exact hg k (by omega)
theorem copyL {f h : Nat → Int64} {P : (Nat → Int64) → Prop} (hP : ∀ g, (∀ k, k < 3969 → g k = h k) → P g) : kl2 (fun (x_21 : Int32) (f_22 : Nat → Int64) K122 => (((3969 : Int32) ≤ x_21 → P f_22) ∧ (¬ (3969 : Int32) ≤ x_21 → (vp_in x_21 3969 ∧ (∀ x_26 : Int64, x_26 = (h x_21.toNatClampNeg) → (vp_in x_21 3969 ∧ (∀ f_28 : Nat → Int64, f_28 = (vp_updL f_22 x_21.toNatClampNeg x_26) → (∀ x_29 : Int32, x_29 = x_21 + (1 : Int32) → K122 x_29 f_28)))))))) (0 : Int32) f := by
  refine kc2 3969 (fun j x g => x = nI j ∧ ∀ k, k < j → g k = h k) ⟨rfl, fun k h => absurd h (Nat.not_lt_zero k)⟩ ?_
  rintro j x g K hj ⟨rfl, hg⟩ hK
  refine pk_le 3969 j (fun c => hP g (fun k hk => hg k (by omega))) (fun c => ⟨vp_in_nI c (by decide), fun x26 e26 => ⟨vp_in_nI c (by decide), fun f6 e6 x7 e7 => hK c ⟨by rw [e7, nI_1], fun k hk => ?_⟩⟩⟩)
  rw [nI_clamp (by omega)] at e6 e26
  rw [e6, e26]
  by_cases q : k = j
  · subst q; rw [pk_uLs]
  · rw [pk_uLn q]; exact hg k (by omega)
theorem cmp_0 {v : Nat} (hv : v < 2 ^ 63) : lg_cmp (lN v) (0 : Int64) = 0 ↔ v = 0 := by
  have e : (lN v = (0 : Int64)) ↔ v = 0 := pk_lEQ (b := 0) hv (by decide)
  unfold lg_cmp
  by_cases c : lN v > (0 : Int64)
  · rw [if_pos c]
    refine ⟨fun h => absurd h (by decide), fun h => ?_⟩
    subst h
    exact absurd c (by decide)
  · rw [if_neg c]
    by_cases c2 : lN v = (0 : Int64)
    · rw [if_pos c2]; exact ⟨fun _ => e.mp c2, fun _ => rfl⟩
    · rw [if_neg c2]; exact ⟨fun h => absurd h (by decide), fun h => absurd (e.mpr h) c2⟩
theorem cmp_le0 {v : Nat} (hv : v < 2 ^ 63) : lg_cmp (lN v) (0 : Int64) ≤ 0 ↔ v = 0 := by
  have h := cmp_gt (lN v) (0 : Int64)
  have e : ((0 : Int64) < lN v) ↔ 0 < v := pk_lLT (a := 0) (by decide) hv
  rw [e, Int32.lt_iff_toInt_lt] at h
  rw [Int32.le_iff_toInt_le]
  omega
theorem lN_addz (a : Nat) : lN a + (0 : Int64) = lN a := lN_add a 0
/-! the class's -/
variable {sz : Int32} {st cf hl : Nat → Int32} {wa sa : Nat → Int32}
theorem cspread_spec (hG : Gd n r w b s0 L) (hc : ClosedL n w L) (hs : SearchL L sz st cf hl) (hr : r ≤ 4) (hwa : ∀ f, f < 6 → wa f = nI (bits4 fun k => decide (k < r) && w k == f)) (hsa : ∀ f, f < 6 → sa f = nI (bits4 fun k => decide (k < r) && b k == f)) {i j f k : Nat} (hi : i < L.length) (hj : j < 8) (hf : f < 6) (hk : k < 7) {sf sn : Nat → Int32} (esf : sf j = nI f) (esn : sn j = nI k)
    {W A V : Nat → Nat} {next rows : Nat → Int64} (hrow : rows i = lN (W i)) (hV : ∀ t, t < L.length → next t = lN (V t)) (hA : ∀ t, t < L.length → V t + W i * (tlL w L f k i).count t = A t)
    {P : Int32 → Int32 → Int32 → Int32 → (Nat → Int64) → Prop} (hP : ∀ v1 v2 v3 v4 g, (∀ t, t < L.length → g t = lN (A t)) → P v1 v2 v3 v4 g) : wp_X7_spread (nI i) (nI j) sz st sf wa sa sn next rows P := by
  have hlen := hG.len
  have hp0 : L[i]? = some L[i] := List.getElem?_eq_getElem hi
  have es := stL_at hp0
  obtain ⟨hxg, hxk⟩ := hG.2 _ (List.mem_of_getElem? hp0)
  have hmv := pairs_mv6 (w := w) hxg hf
  have h1 := outM_lt w L[i].1 f
  have h2 := inM_lt L[i].1 f
  have hd := out_in_dis w L[i].1 hf
  obtain ⟨hch, hl20⟩ := pairs_chain h1 h2 hd
  have htl := fun q (hq : q ∈ pairs (outM w L[i].1 f) (inM L[i].1 f)) => tl_lt hG hc (k := k) hf hi q (by rw [es]; exact hq)
  unfold tlL at hA
  rw [es] at hA htl
  unfold wp_X7_spread wp_X6_stateAt
  refine at_in (by omega) (by decide) ?_
  rw [(hs.2 i _ hp0).1]
  refine at_in (n := 8) hj (by decide) ?_
  rw [esf]
  refine mayLeave_enc (t := 0) (b := b) hxg hr hf (hwa f hf) (mayEnter_enc (n := 6) (t := 0) (w := w) hxg.up hr hf (hsa f hf) (begin_spec h1 h2 ?_))
  refine kr4 (pairs (outM w L[i].1 f) (inM L[i].1 f)) (fun l x9 v10 v11 g => ∃ o e V, v10 = nI o ∧ v11 = nI e ∧ RpC (outM w L[i].1 f) (inM L[i].1 f) o e l ∧ l.length ≤ (pairs (outM w L[i].1 f) (inM L[i].1 f)).length ∧ x9 = nI ((pairs (outM w L[i].1 f) (inM L[i].1 f)).length - l.length) ∧ (∀ q ∈ l, q ∈ pairs (outM w L[i].1 f) (inM L[i].1 f)) ∧ (∀ t, t < L.length → g t = lN (V t)) ∧ ∀ t, t < L.length → V t + W i * (((l.filter fun q => pop6 q.1 == k).map fun q => ixL L (chg L[i].1 f q.1 q.2)).count t) = A t)
    ⟨_, _, V, rfl, rfl, hch, Nat.le_refl _, by rw [Nat.sub_self]; rfl, fun _ h => h, hV, hA⟩ ?_ ?_
  · rintro x9 v10 v11 g K ⟨o, e, V, rfl, rfl, hc', -, rfl, -, hV, hA⟩
    have fin : ∀ t, t < L.length → g t = lN (A t) := fun t ht => by
      have := hA t ht
      rw [show ((([] : List (Nat × Nat)).filter fun q => pop6 q.1 == k).map fun q => ixL L (chg L[i].1 f q.1 q.2)).count t = 0 from rfl, Nat.mul_zero, Nat.add_zero] at this
      rw [hV t ht, this]
    refine pk_le 64 _ (fun c => ?_) (fun c => next_nil h1 h2 hc' (fun o e => b_no (hP _ _ _ _ _ fin))) rfl rfl (by omega) (by omega)
    simp at c
    omega
  · rintro q l x9 v10 v11 g K ⟨o, e, V, rfl, rfl, hc', hle, rfl, hmem, hV, hA⟩ hK
    rw [List.length_cons] at hle ⊢
    have hq := hmem q List.mem_cons_self
    have hm := hmv q hq
    obtain ⟨q1, q2, -⟩ := mv_bits hm
    have pq := pop_le q.1
    have nx : ∀ (V' : Nat → Nat) (g' : Nat → Int64) (x' : Int32), x' = nI ((pairs (outM w L[i].1 f) (inM L[i].1 f)).length - (l.length + 1)) + 1 → (∀ t, t < L.length → g' t = lN (V' t)) → (∀ t, t < L.length → V' t + W i * (((l.filter fun q => pop6 q.1 == k).map fun q => ixL L (chg L[i].1 f q.1 q.2)).count t) = A t) → K x' (nI q.1) (nI q.2) g' := by
      intro V' g' x' ex hV' hA'
      refine hK ⟨_, _, V', rfl, rfl, hc'.2.2.2, by omega, ?_, fun p hp => hmem p (List.mem_cons_of_mem _ hp), hV', hA'⟩
      rw [ex, nI_1]
      congr 1
      omega
    refine pk_le 64 _ (fun c => by omega) (fun c => next_cons h1 h2 hc' (b_yes (bc_spec q1 (at_in (n := 8) hj (by decide) ?_)))) rfl rfl (by omega) (by omega)
    rw [esn]
    refine pk_ne (pop6 q.1) k (fun cp => ?_) (fun cp x21 e21 => nx V g x21 e21 hV (fun t ht => ?_))
    · obtain ⟨y, hy, ey⟩ := htl q hq
      have hyl := (List.getElem?_eq_some_iff.mp hy).1
      obtain ⟨g1, g2⟩ := mkE_ok (i := i) hxg hxk hm
      refine after_enc (hxg.2.pz hxg.1) hf q1 q2 (fun k _ hk => hx_of hxg.1 hm k hk) (index_spec hG hs g1 (fun i' y' hi' hy' => ?_) (fun hno => absurd ey (hno y (List.mem_of_getElem? hy))))
      have hit : i' = ixL L (chg L[i].1 f q.1 q.2) := by
        have := ix_spec hG.1 hi'
        rw [hy'] at this
        exact this.symm
      subst hit
      refine atL_in (by omega) (by decide) (atL_in (by omega) (by decide) (putL_in (by omega) (by decide) (fun x27 e27 => nx (setN V (ixL L (chg L[i].1 f q.1 q.2)) (V (ixL L (chg L[i].1 f q.1 q.2)) + W i)) _ x27 e27 (fun t ht => ?_) (fun t ht => ?_))))
      · by_cases z : t = ixL L (chg L[i].1 f q.1 q.2)
        · rw [← z, pk_uLs, setN_eq, hV t ht, hrow, lN_add]
        · rw [pk_uLn z, setN_ne _ _ z]; exact hV t ht
      · have := hA t ht
        rw [List.filter_cons_of_pos (by simpa using cp), List.map_cons, List.count_cons] at this
        by_cases z : t = ixL L (chg L[i].1 f q.1 q.2)
        · rw [if_pos (by simpa using z.symm), Nat.mul_add, Nat.mul_one] at this
          rw [← z, setN_eq]; omega
        · rw [if_neg (by simpa using Ne.symm z), Nat.add_zero] at this
          rw [setN_ne _ _ z]; exact this
    · have := hA t ht
      rw [List.filter_cons_of_neg (by simpa using cp)] at this
      exact this
end WAYS
