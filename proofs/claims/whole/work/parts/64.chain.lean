/-! PURE ROWS: subsets one by one, pairs one by one -/
def NxC (m : Nat) : List Nat → Prop
  | [] => True
  | x :: l => x ≠ 0 ∧ x < 64 ∧ nxS x m = l.headD 0 ∧ NxC m l
def nxcB (m : Nat) : List Nat → Bool
  | [] => true
  | x :: l => ((x != 0 && decide (x < 64)) && nxS x m == l.headD 0) && nxcB m l
theorem nxcB_ok (m : Nat) : ∀ l, nxcB m l = true → NxC m l
  | [], _ => trivial
  | x :: l, h => by
    unfold nxcB at h
    simp only [Bool.and_eq_true, bne_iff_ne, decide_eq_true_eq, beq_iff_eq] at h
    exact ⟨h.1.1.1, h.1.1.2, h.1.2, nxcB_ok m l h.2⟩
theorem nxc_all : ((List.range 64).all fun m => nxcB m (subs m) && nxS 0 m == (subs m).headD 0) = true := by decide +kernel
theorem subs_chain {m : Nat} (hm : m < 64) : NxC m (subs m) ∧ nxS 0 m = (subs m).headD 0 := by
  have h := List.all_eq_true.mp nxc_all m (List.mem_range.mpr hm)
  rw [Bool.and_eq_true, beq_iff_eq] at h
  exact ⟨nxcB_ok m _ h.1, h.2⟩
theorem nI_next {x m : Nat} (hx : x < 64) (hm : m < 64) : (nI x - nI m) &&& nI m = nI (nxS x m) := nxS_I m hm x hx
theorem next0 {m : Nat} {P : Int32 → Prop} (hm : m < 64) (hP : P (nI ((subs m).headD 0))) : wp_X11_next (0 : Int32) (nI m) P := by
  unfold wp_X11_next
  rw [show (0 : Int32) = nI 0 from rfl, nI_next (by decide) hm, (subs_chain hm).2]
  exact hP
theorem nextS {x m : Nat} {l : List Nat} {P : Int32 → Prop} (hm : m < 64) (hc : NxC m (x :: l)) (hP : P (nI (l.headD 0))) : wp_X11_next (nI x) (nI m) P := by
  unfold wp_X11_next
  rw [nI_next hc.2.1 hm, hc.2.2.1]
  exact hP
theorem nz64 {x : Nat} (hx : x < 64) (h0 : x ≠ 0) : ¬ nI x = 0 := fun h => h0 ((nI_eq (b := 0) (by omega) (by decide)).mp h)
theorem pop_cnt (m : Nat) : pop6 m = cntN 6 m.testBit := by
  simp only [pop6, cntN]
  omega
theorem pop_le (m : Nat) : pop6 m ≤ 6 := by rw [pop_cnt]; exact cntN_le 6 _
theorem many_spec {m : Nat} {P : Int32 → Prop} (hm : m < 64) (hP : P (nI (pop6 m))) : wp_X11_many (nI m) P := by
  unfold wp_X11_many
  refine kc2 6 (fun j x y => y = nI j ∧ x = nI (cntN j m.testBit)) ⟨rfl, rfl⟩ ?_
  rintro j x y K hj ⟨rfl, rfl⟩ hK
  refine ⟨fun c => ?_, fun c => ?_⟩
  · have := (nI_leI (a := 6) (by decide) (by omega)).mp c
    have e : j = 6 := by omega
    subst e
    rw [← pop_cnt]; exact hP
  · have hj6 : j < 6 := by
      apply Nat.lt_of_not_le
      intro q
      exact c (nI_le (a := 6) q (by omega))
    intro x4 e4 x5 e5
    refine hK hj6 ⟨by rw [e5, nI_1], ?_⟩
    rw [e4, hasB m hm j hj6, nI_add]
    rfl
theorem pop_eq {a b : Nat} : nI (pop6 a) = nI (pop6 b) ↔ pop6 a = pop6 b := by
  have := pop_le a; have := pop_le b
  exact nI_eq (by omega) (by omega)
/-! the class's row of pairs -/
def RpC (ml me : Nat) : Nat → Nat → List (Nat × Nat) → Prop
  | o, i, [] => o < 64 ∧ i < 64 ∧ (nxP 64 ml me o i).1 = false
  | o, i, q :: l => o < 64 ∧ i < 64 ∧ nxP 64 ml me o i = (true, q.1, q.2) ∧ RpC ml me q.1 q.2 l
theorem nxP_lt {ml me : Nat} (h1 : ml < 64) (h2 : me < 64) : ∀ k o i, o < 64 → i < 64 → (nxP k ml me o i).2.1 < 64 ∧ (nxP k ml me o i).2.2 < 64
  | 0, o, i, ho, hi => ⟨ho, hi⟩
  | k + 1, o, i, ho, hi => by
    have hj := nxS_lt (x := i) h2
    have hq := nxS_lt (x := o) h1
    simp only [nxP]
    split
    · exact ⟨ho, hi⟩
    · split
      · exact nxP_lt h1 h2 k _ _ hq hj
      · split
        · exact ⟨ho, hj⟩
        · exact nxP_lt h1 h2 k _ _ ho hj
theorem rowP_chain {ml me : Nat} (h1 : ml < 64) (h2 : me < 64) : ∀ k o i, o < 64 → i < 64 → (rowP k ml me o i).length < k → RpC ml me o i (rowP k ml me o i)
  | 0, _, _, _, _, h => absurd h (Nat.not_lt_zero _)
  | k + 1, o, i, ho, hi, h => by
    obtain ⟨a1, a2⟩ := nxP_lt h1 h2 64 o i ho hi
    simp only [rowP] at h ⊢
    by_cases c : (nxP 64 ml me o i).1 = true
    · rw [if_pos c] at h ⊢
      rw [List.length_cons] at h
      refine ⟨ho, hi, ?_, rowP_chain h1 h2 k _ _ a1 a2 (Nat.lt_of_succ_lt_succ h)⟩
      rw [← c]
    · rw [if_neg c]
      exact ⟨ho, hi, by simpa using c⟩
def strt (ml me : Nat) : Nat := if me = 0 then 0 else nxS 0 ml
theorem pairs_chain {ml me : Nat} (h1 : ml < 64) (h2 : me < 64) (hd : ml &&& me = 0) : RpC ml me (strt ml me) 0 (pairs ml me) ∧ (pairs ml me).length < 20 := by
  have h := List.all_eq_true.mp (List.all_eq_true.mp chkP_all ml (List.mem_range.mpr h1)) me (List.mem_range.mpr h2)
  unfold chkP at h
  rw [if_pos hd, Bool.and_eq_true, beq_iff_eq, decide_eq_true_eq] at h
  have h0 : strt ml me < 64 := by
    unfold strt
    split
    · decide
    · exact nxS_lt h1
  have := rowP_chain h1 h2 20 (strt ml me) 0 h0 (by decide)
  rw [show rowP 20 ml me (strt ml me) 0 = pairs ml me from h.1] at this
  exact ⟨this h.2, h.2⟩
theorem begin_spec {ml me : Nat} {P : Int32 → Int32 → Int32 → Int32 → Prop} (h1 : ml < 64) (h2 : me < 64) (hP : P (nI ml) (nI me) (nI (strt ml me)) (nI 0)) : wp_X1_begin (nI ml) (nI me) P := by
  unfold wp_X1_begin
  unfold strt at hP
  refine ⟨fun c => ?_, fun c => ?_⟩
  · refine nextSet_spec (x := 0) h1 (by decide) ?_
    rw [if_neg (fun z => c (by rw [z]; rfl))] at hP
    exact hP
  · have : me = 0 := (nI_eq (b := 0) (by omega) (by decide)).mp c
    rw [if_pos this] at hP
    exact hP
theorem next_nil {ml me o i : Nat} {P : Int32 → Int32 → Int32 → Prop} (h1 : ml < 64) (h2 : me < 64) (hc : RpC ml me o i []) (hP : ∀ o i, P 0 (nI o) (nI i)) : wp_X1_next (nI ml) (nI me) (nI o) (nI i) P := by
  obtain ⟨ho, hi, e⟩ := hc
  refine next_spec h1 h2 ho hi ?_
  rw [e]
  exact hP _ _
theorem next_cons {ml me o i : Nat} {q : Nat × Nat} {l : List (Nat × Nat)} {P : Int32 → Int32 → Int32 → Prop} (h1 : ml < 64) (h2 : me < 64) (hc : RpC ml me o i (q :: l)) (hP : P 1 (nI q.1) (nI q.2)) : wp_X1_next (nI ml) (nI me) (nI o) (nI i) P := by
  obtain ⟨ho, hi, e, -⟩ := hc
  refine next_spec h1 h2 ho hi ?_
  rw [e]
  exact hP
theorem out_in_dis (w : Nat → Nat) (s : List Nat) {f : Nat} (hf : f < 6) : outM w s f &&& inM s f = 0 := by
  apply Nat.eq_of_testBit_eq
  intro k
  rw [Nat.testBit_and, Nat.zero_testBit]
  cases c : (outM w s f).testBit k with
  | false => rfl
  | true =>
    cases c2 : (inM s f).testBit k with
    | false => rfl
    | true =>
      have h1 := (outM_tb c).2.1
      have h2 := (inM_tb c2).2
      omega
