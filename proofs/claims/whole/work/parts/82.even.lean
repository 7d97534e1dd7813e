/-! PURE ROWS: even: weights -/
def prodN (f : Nat → Nat) : Nat → Nat
  | 0 => 1
  | k + 1 => prodN f k * f k
theorem prodN_mul {f g h u : Nat → Nat} : ∀ {k : Nat}, (∀ i, i < k → f i = g i * h i * u i) → prodN f k = prodN g k * prodN h k * prodN u k
  | 0, _ => rfl
  | k + 1, e => by
    show prodN f k * f k = prodN g k * g k * (prodN h k * h k) * (prodN u k * u k)
    rw [prodN_mul (k := k) (fun i hi => e i (by omega)), e k (Nat.lt_succ_self k)]
    simp only [Nat.mul_assoc, Nat.mul_comm, Nat.mul_left_comm]
theorem prodN_cong {f g : Nat → Nat} : ∀ {k : Nat}, (∀ i, i < k → f i = g i) → prodN f k = prodN g k
  | 0, _ => rfl
  | k + 1, e => by
    show prodN f k * f k = prodN g k * g k
    rw [prodN_cong (k := k) (fun i hi => e i (by omega)), e k (Nat.lt_succ_self k)]
def facN (T : Nat → Nat) (m x i : Nat) : Nat := if m.testBit i then (if x.testBit i then T i else 10 - T i) else 1
def fac10 (T : Nat → Nat) (m x i : Nat) : Nat := if m.testBit i then (if x.testBit i then T i else 10 - T i) else 10
def wtN (T : Nat → Nat) (m x k : Nat) : Nat := prodN (facN T m x) k
def sbN (m x : Nat) : Nat → Bool
  | 0 => true
  | k + 1 => sbN m x k && (!x.testBit k || m.testBit k)
/-- the weight of all sets of j of m, by the first k bits -/
def FN (T : Nat → Nat) (m k j : Nat) : Nat := fb_sm (fun x => if sbN m x k && cntN k x.testBit == j then wtN T m x k else 0) (2 ^ k)
theorem low_same {x y : Nat} (m : Nat) (T : Nat → Nat) : ∀ {k : Nat}, (∀ i, i < k → x.testBit i = y.testBit i) → sbN m x k = sbN m y k ∧ cntN k x.testBit = cntN k y.testBit ∧ wtN T m x k = wtN T m y k
  | 0, _ => ⟨rfl, rfl, rfl⟩
  | k + 1, h => by
    obtain ⟨h1, h2, h3⟩ := low_same m T (k := k) (fun i hi => h i (by omega))
    have hk := h k (Nat.lt_succ_self k)
    refine ⟨?_, ?_, ?_⟩
    · show (sbN m x k && _) = (sbN m y k && _); rw [h1, hk]
    · show cntN k _ + _ = cntN k _ + _; rw [h2, hk]
    · show wtN T m x k * facN T m x k = wtN T m y k * facN T m y k
      rw [h3]; unfold facN; rw [hk]
theorem FN_zero (T : Nat → Nat) (m j : Nat) : FN T m 0 j = if j = 0 then 1 else 0 := by
  show 0 + (if (true && (0 == j)) = true then 1 else 0) = _
  by_cases c : j = 0
  · subst c; rfl
  · rw [if_neg c, if_neg (by simpa using Ne.symm c)]
theorem FN_succ (T : Nat → Nat) (m k j : Nat) : FN T m (k + 1) j = if m.testBit k then FN T m k j * (10 - T k) + (if j = 0 then 0 else FN T m k (j - 1)) * T k else FN T m k j := by
  have e1 : FN T m (k + 1) j = fb_sm (fun x => if sbN m x (k + 1) && cntN (k + 1) x.testBit == j then wtN T m x (k + 1) else 0) (2 ^ k) + fb_sm (fun x => if sbN m (2 ^ k + x) (k + 1) && cntN (k + 1) (2 ^ k + x).testBit == j then wtN T m (2 ^ k + x) (k + 1) else 0) (2 ^ k) := by
    unfold FN
    rw [show 2 ^ (k + 1) = 2 ^ k + 2 ^ k by rw [Nat.pow_succ]; omega, fb_sm_split]
  have lo : ∀ x, x < 2 ^ k → sbN m x (k + 1) = sbN m x k ∧ cntN (k + 1) x.testBit = cntN k x.testBit ∧ wtN T m x (k + 1) = wtN T m x k * (if m.testBit k then 10 - T k else 1) := by
    intro x hx
    have hb : x.testBit k = false := Nat.testBit_lt_two_pow hx
    refine ⟨?_, ?_, ?_⟩
    · show (sbN m x k && (!x.testBit k || m.testBit k)) = _; rw [hb]; simp
    · show cntN k _ + (x.testBit k).toNat = _; rw [hb]; rfl
    · show wtN T m x k * facN T m x k = _; unfold facN; rw [hb]; simp
  have hi : ∀ x, x < 2 ^ k → sbN m (2 ^ k + x) (k + 1) = (sbN m x k && m.testBit k) ∧ cntN (k + 1) (2 ^ k + x).testBit = cntN k x.testBit + 1 ∧ wtN T m (2 ^ k + x) (k + 1) = wtN T m x k * (if m.testBit k then T k else 1) := by
    intro x hx
    have hb : (2 ^ k + x).testBit k = true := by rw [Nat.testBit_two_pow_add_eq, Nat.testBit_lt_two_pow hx]; rfl
    obtain ⟨a1, a2, a3⟩ := low_same (x := 2 ^ k + x) (y := x) m T (k := k) (fun i hi => Nat.testBit_two_pow_add_gt hi x)
    refine ⟨?_, ?_, ?_⟩
    · show (sbN m (2 ^ k + x) k && (!(2 ^ k + x).testBit k || m.testBit k)) = _; rw [hb, a1]; simp
    · show cntN k _ + ((2 ^ k + x).testBit k).toNat = _; rw [hb, a2]; rfl
    · show wtN T m (2 ^ k + x) k * facN T m (2 ^ k + x) k = _; unfold facN; rw [hb, a3]; simp
  have L : fb_sm (fun x => if sbN m x (k + 1) && cntN (k + 1) x.testBit == j then wtN T m x (k + 1) else 0) (2 ^ k) = FN T m k j * (if m.testBit k then 10 - T k else 1) := by
    unfold FN
    rw [← sm_mulr]
    refine fb_sm_cong (fun x hx => ?_)
    obtain ⟨a1, a2, a3⟩ := lo x hx
    rw [a1, a2, a3]
    by_cases c : (sbN m x k && cntN k x.testBit == j) = true
    · rw [if_pos c, if_pos c]
    · rw [if_neg c, if_neg c, Nat.zero_mul]
  have R : fb_sm (fun x => if sbN m (2 ^ k + x) (k + 1) && cntN (k + 1) (2 ^ k + x).testBit == j then wtN T m (2 ^ k + x) (k + 1) else 0) (2 ^ k) = (if m.testBit k then (if j = 0 then 0 else FN T m k (j - 1)) * T k else 0) := by
    by_cases cm : m.testBit k = true
    · rw [if_pos cm]
      by_cases cj : j = 0
      · rw [if_pos cj, Nat.zero_mul]
        refine (fb_sm_cong (g := fun _ => 0) (fun x hx => ?_)).trans (sm_zero _)
        obtain ⟨a1, a2, a3⟩ := hi x hx
        rw [if_neg]
        rw [a2, cj]; simp
      · rw [if_neg cj]
        unfold FN
        rw [← sm_mulr]
        refine fb_sm_cong (fun x hx => ?_)
        obtain ⟨a1, a2, a3⟩ := hi x hx
        rw [a1, a2, a3, cm, Bool.and_true, if_pos rfl]
        have ej : (cntN k x.testBit + 1 == j) = (cntN k x.testBit == j - 1) := by
          rw [Bool.eq_iff_iff, beq_iff_eq, beq_iff_eq]; omega
        rw [ej]
        by_cases c : (sbN m x k && cntN k x.testBit == j - 1) = true
        · rw [if_pos c, if_pos c]
        · rw [if_neg c, if_neg c, Nat.zero_mul]
    · rw [if_neg cm]
      refine (fb_sm_cong (g := fun _ => 0) (fun x hx => ?_)).trans (sm_zero _)
      obtain ⟨a1, a2, a3⟩ := hi x hx
      rw [if_neg]
      rw [a1, show m.testBit k = false by simpa using cm]; simp
  rw [e1, L, R]
  by_cases cm : m.testBit k = true
  · rw [if_pos cm, if_pos cm, if_pos cm]
  · rw [if_neg cm, if_neg cm, if_neg cm, Nat.mul_one, Nat.add_zero]
theorem sm7 (f : Nat → Nat) : fb_sm f 7 = f 0 + f 1 + f 2 + f 3 + f 4 + f 5 + f 6 := by
  rw [fb_sm_succ, fb_sm_succ, fb_sm_succ, fb_sm_succ, fb_sm_succ, fb_sm_succ, fb_sm_succ]
  show 0 + _ + _ + _ + _ + _ + _ + _ = _
  omega
theorem FN_sum {T : Nat → Nat} {m : Nat} (hT : ∀ k, k < 6 → T k ≤ 10) : ∀ k, k ≤ 6 → fb_sm (FN T m k) 7 ≤ 10 ^ cntN k m.testBit
  | 0, _ => by
    have e : fb_sm (FN T m 0) 7 = fb_sm (fun j => if j = 0 then 1 else 0) 7 := fb_sm_cong (fun j _ => FN_zero T m j)
    rw [e, sm_pick]
    exact Nat.le_refl 1
  | k + 1, hk => by
    have ih := FN_sum (m := m) hT k (by omega)
    have hTk := hT k (by omega)
    show _ ≤ 10 ^ (cntN k m.testBit + (m.testBit k).toNat)
    by_cases cm : m.testBit k = true
    · have e : fb_sm (FN T m (k + 1)) 7 = fb_sm (fun j => FN T m k j * (10 - T k) + (if j = 0 then 0 else FN T m k (j - 1)) * T k) 7 := fb_sm_cong (fun j _ => by rw [FN_succ, if_pos cm])
      rw [e, fb_sm_add, sm_mulr, sm_mulr, cm]
      have sh : fb_sm (fun j => if j = 0 then 0 else FN T m k (j - 1)) 7 ≤ fb_sm (FN T m k) 7 := by
        rw [sm7, sm7]
        simp
      show _ ≤ 10 ^ (cntN k m.testBit + 1)
      rw [Nat.pow_succ]
      have h1 : fb_sm (FN T m k) 7 * (10 - T k) + fb_sm (fun j => if j = 0 then 0 else FN T m k (j - 1)) 7 * T k ≤ fb_sm (FN T m k) 7 * (10 - T k) + fb_sm (FN T m k) 7 * T k := Nat.add_le_add_left (Nat.mul_le_mul_right _ sh) _
      rw [← Nat.mul_add, show 10 - T k + T k = 10 by omega] at h1
      exact Nat.le_trans h1 (Nat.mul_le_mul_right 10 ih)
    · have e : fb_sm (FN T m (k + 1)) 7 = fb_sm (FN T m k) 7 := fb_sm_cong (fun j _ => by rw [FN_succ, if_neg cm])
      rw [e, show m.testBit k = false by simpa using cm]
      exact ih
/-! sums over rows -/
theorem sum_filter_range (p : Nat → Bool) (f : Nat → Nat) : ∀ N, (((List.range N).filter p).map f).sum = fb_sm (fun x => if p x then f x else 0) N
  | 0 => rfl
  | N + 1 => by
    rw [List.range_succ, List.filter_append, List.map_append, List.sum_append, sum_filter_range p f N, fb_sm_succ]
    congr 1
    by_cases c : p N = true
    · rw [List.filter_cons_of_pos c, if_pos c]; simp
    · rw [List.filter_cons_of_neg c, if_neg c]; rfl
theorem sum_flatMap (g : Nat → List (Nat × Nat)) (f : Nat × Nat → Nat) : ∀ l : List Nat, ((l.flatMap g).map f).sum = (l.map fun x => ((g x).map f).sum).sum
  | [] => rfl
  | x :: l => by rw [List.flatMap_cons, List.map_append, List.sum_append, sum_flatMap g f l, List.map_cons, List.sum_cons]
theorem sum_mulc (c : Nat) (f : Nat → Nat) : ∀ l : List Nat, (l.map fun y => c * f y).sum = c * (l.map f).sum
  | [] => rfl
  | y :: l => by rw [List.map_cons, List.map_cons, List.sum_cons, List.sum_cons, sum_mulc c f l, Nat.mul_add]
theorem sb_all : ((List.range 64).all fun m => (List.range 64).all fun x => sbN m x 6 == (x &&& m == x)) = true := by decide +kernel
theorem sb_eq {m x : Nat} (hm : m < 64) (hx : x < 64) : sbN m x 6 = (x &&& m == x) := by
  have h := List.all_eq_true.mp (List.all_eq_true.mp sb_all m (List.mem_range.mpr hm)) x (List.mem_range.mpr hx)
  exact eq_of_beq h
theorem pop0_all : ∀ x, x < 64 → (pop6 x = 0 ↔ x = 0) := by decide +kernel
theorem E_eq {T : Nat → Nat} {m j : Nat} (hm : m < 64) (hj : j ≠ 0) : (((subs m).filter fun y => pop6 y == j).map fun y => wtN T m y 6).sum = FN T m 6 j := by
  unfold subs
  rw [List.filter_filter, sum_filter_range]
  unfold FN
  refine fb_sm_cong (fun x hx => ?_)
  have hx : x < 64 := hx
  rw [sb_eq hm hx, ← pop_cnt]
  by_cases c : pop6 x = j
  · have x0 : x ≠ 0 := fun z => hj (by rw [← c]; exact (pop0_all x hx).mpr z)
    have b0 : (x != 0) = true := by simpa using x0
    rw [b0, Bool.true_and, Bool.and_comm]
  · have b0 : (pop6 x == j) = false := by simpa using c
    rw [b0, Bool.false_and, Bool.and_false]
theorem pairs_sum {T : Nat → Nat} {ml me : Nat} (h1 : ml < 64) (h2 : me < 64) : ((pairs ml me).map fun q => wtN T ml q.1 6 * wtN T me q.2 6).sum = fb_sm (fun j => FN T ml 6 (j + 1) * FN T me 6 (j + 1)) 6 := by
  have e1 : ((pairs ml me).map fun q => wtN T ml q.1 6 * wtN T me q.2 6).sum = ((subs ml).map fun x => wtN T ml x 6 * FN T me 6 (pop6 x)).sum := by
    unfold pairs
    rw [sum_flatMap]
    congr 1
    refine List.map_congr_left (fun x hx => ?_)
    obtain ⟨a1, a2, a3⟩ := subs_mem.mp hx
    rw [List.map_map, ← E_eq h2 (fun z => a2 ((pop0_all x a1).mp z)), ← sum_mulc]
    rfl
  rw [e1]
  unfold subs
  rw [sum_filter_range]
  have e2 : fb_sm (fun j => FN T ml 6 (j + 1) * FN T me 6 (j + 1)) 6 = fb_sm (fun j => fb_sm (fun x => (if sbN ml x 6 && cntN 6 x.testBit == j + 1 then wtN T ml x 6 else 0) * FN T me 6 (j + 1)) 64) 6 := by
    refine fb_sm_cong (fun j _ => ?_)
    rw [sm_mulr]
    rfl
  rw [e2, sm_swap (fun j x => (if sbN ml x 6 && cntN 6 x.testBit == j + 1 then wtN T ml x 6 else 0) * FN T me 6 (j + 1))]
  refine fb_sm_cong (fun x hx => ?_)
  have hx : x < 64 := hx
  have hp := pop_le x
  have p0 := pop0_all x hx
  rw [sb_eq h1 hx, ← pop_cnt]
  by_cases cs : (x &&& ml == x) = true
  · rw [cs, Bool.and_true]
    by_cases x0 : x = 0
    · rw [if_neg (by simpa using x0)]
      refine ((fb_sm_cong (g := fun _ => 0) (fun j _ => ?_)).trans (sm_zero _)).symm
      rw [p0.mpr x0, if_neg (by simp), Nat.zero_mul]
    · rw [if_pos (by simpa using x0)]
      have pp : pop6 x ≠ 0 := fun z => x0 (p0.mp z)
      have h := sm_pick (pop6 x - 1) (wtN T ml x 6 * FN T me 6 (pop6 x)) 6
      rw [if_pos (by omega)] at h
      rw [← h]
      refine fb_sm_cong (fun j _ => ?_)
      by_cases q : j = pop6 x - 1
      · rw [if_pos q, if_pos (by rw [Bool.true_and, beq_iff_eq]; omega), show j + 1 = pop6 x by omega]
      · rw [if_neg q, if_neg (by rw [Bool.true_and, beq_iff_eq]; omega), Nat.zero_mul]
  · have cf : (x &&& ml == x) = false := by simpa using cs
    rw [cf, Bool.and_false, if_neg (by decide)]
    refine ((fb_sm_cong (g := fun _ => 0) (fun j _ => ?_)).trans (sm_zero _)).symm
    rw [Bool.false_and, if_neg (by decide), Nat.zero_mul]
def tenN (m : Nat) : Nat := prodN (fun i => if m.testBit i then 1 else 10) 6
theorem ten_all : ((List.range 64).all fun ml => (List.range 64).all fun me => ml &&& me != 0 || 10 ^ pop6 ml * 10 ^ pop6 me * tenN (ml ||| me) == 1000000) = true := by decide +kernel
theorem ten_eq {ml me : Nat} (h1 : ml < 64) (h2 : me < 64) (hd : ml &&& me = 0) : 10 ^ pop6 ml * 10 ^ pop6 me * tenN (ml ||| me) = 1000000 := by
  have h := List.all_eq_true.mp (List.all_eq_true.mp ten_all ml (List.mem_range.mpr h1)) me (List.mem_range.mpr h2)
  rw [hd] at h
  simpa using h
theorem wgt_eq {T : Nat → Nat} {ml me : Nat} (hd : ml &&& me = 0) {q : Nat × Nat} (hq : q ∈ pairs ml me) : prodN (fac10 T (ml ||| me) (q.1 ||| q.2)) 6 = wtN T ml q.1 6 * wtN T me q.2 6 * tenN (ml ||| me) := by
  obtain ⟨a, c, -⟩ := pairs_mem.mp hq
  have a3 := (subs_mem.mp a).2.2
  have c3 := (subs_mem.mp c).2.2
  refine prodN_mul (fun i hi => ?_)
  have hdi := congrArg (fun m => m.testBit i) hd
  simp only [Nat.testBit_and, Nat.zero_testBit] at hdi
  have hx := fun h => and_sub_tb a3 (i := i) h
  have hy := fun h => and_sub_tb c3 (i := i) h
  unfold fac10 facN
  rw [Nat.testBit_or, Nat.testBit_or]
  cases u : ml.testBit i <;> cases v : me.testBit i
  · simp
  · have xf : q.1.testBit i = false := by
      cases z : q.1.testBit i with
      | false => rfl
      | true => rw [hx z] at u; exact absurd u (by decide)
    rw [xf]; simp
  · have yf : q.2.testBit i = false := by
      cases z : q.2.testBit i with
      | false => rfl
      | true => rw [hy z] at v; exact absurd v (by decide)
    rw [yf]; simp
  · rw [u, v] at hdi; exact absurd hdi (by decide)
def likeN (T : Nat → Nat) (ml me : Nat) : Nat := fb_sm (fun j => FN T ml 6 (j + 1) * FN T me 6 (j + 1)) 6
theorem evsum_eq {T : Nat → Nat} {ml me : Nat} (h1 : ml < 64) (h2 : me < 64) (hd : ml &&& me = 0) : ((pairs ml me).map fun q => prodN (fac10 T (ml ||| me) (q.1 ||| q.2)) 6).sum = likeN T ml me * tenN (ml ||| me) := by
  unfold likeN
  rw [← pairs_sum h1 h2]
  have e : ((pairs ml me).map fun q => prodN (fac10 T (ml ||| me) (q.1 ||| q.2)) 6) = (pairs ml me).map fun q => wtN T ml q.1 6 * wtN T me q.2 6 * tenN (ml ||| me) := List.map_congr_left (fun q hq => wgt_eq hd hq)
  rw [e]
  have gen : ∀ l : List (Nat × Nat), (l.map fun q => wtN T ml q.1 6 * wtN T me q.2 6 * tenN (ml ||| me)).sum = (l.map fun q => wtN T ml q.1 6 * wtN T me q.2 6).sum * tenN (ml ||| me) := by
    intro l
    induction l with
    | nil => exact (Nat.zero_mul _).symm
    | cons q l ih => rw [List.map_cons, List.map_cons, List.sum_cons, List.sum_cons, ih, Nat.add_mul]
  exact gen _
theorem like_le {T : Nat → Nat} {ml me : Nat} (hT : ∀ k, k < 6 → T k ≤ 10) : likeN T ml me ≤ 10 ^ pop6 ml * 10 ^ pop6 me := by
  have a := FN_sum (m := ml) hT 6 (Nat.le_refl 6)
  have c := FN_sum (m := me) hT 6 (Nat.le_refl 6)
  rw [← pop_cnt] at a c
  unfold likeN
  have e1 : fb_sm (fun j => FN T ml 6 (j + 1) * FN T me 6 (j + 1)) 6 ≤ fb_sm (fun j => FN T ml 6 (j + 1) * 10 ^ pop6 me) 6 := by
    refine fb_sm_le (fun j hj => Nat.mul_le_mul_left _ ?_)
    have := fb_sm_part (FN T me 6) (i := j + 1) (n := 7) (by omega)
    omega
  rw [sm_mulr] at e1
  have e2 : fb_sm (fun j => FN T ml 6 (j + 1)) 6 ≤ fb_sm (FN T ml 6) 7 := by
    have := fb_sm_split (FN T ml 6) 1 6
    rw [show 1 + 6 = 7 from rfl] at this
    rw [this]
    have e3 : fb_sm (fun k => FN T ml 6 (1 + k)) 6 = fb_sm (fun j => FN T ml 6 (j + 1)) 6 := fb_sm_cong (fun j _ => by rw [Nat.add_comm])
    omega
  exact Nat.le_trans e1 (Nat.mul_le_mul_right _ (Nat.le_trans e2 a))
