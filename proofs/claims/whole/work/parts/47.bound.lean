/-! PURE ROWS: there are at most 128 states -/
def t1 (w : Nat → Nat) (s : List Nat) (g k : Nat) : Nat := (if pz s k = g then 1 else 0) + (if k < 4 ∧ pz s k = 7 ∧ w k = g then 1 else 0)
def t2 (s : List Nat) (k : Nat) : Nat := if pz s k = 6 then 1 else 0
def sum6 (t : Nat → Nat) : Nat := t 0 + t 1 + t 2 + t 3 + t 4 + t 5
theorem chg_pz (s : List Nat) (f o i k : Nat) (hk : k < 6) : pz (chg s f o i) k = if i.testBit k then 6 else if o.testBit k then (if k < 4 then 7 else f) else pz s k := by
  rcases (show k = 0 ∨ k = 1 ∨ k = 2 ∨ k = 3 ∨ k = 4 ∨ k = 5 by omega) with rfl | rfl | rfl | rfl | rfl | rfl <;> rfl
theorem chg_len (s : List Nat) (f o i : Nat) : (chg s f o i).length = 6 := rfl
theorem outM_tb {w : Nat → Nat} {s : List Nat} {f k : Nat} (h : (outM w s f).testBit k = true) : k < 6 ∧ pz s k = 6 ∧ (4 ≤ k ∨ w k = f) := by
  unfold outM at h
  rw [bits6_tb] at h
  simp at h
  exact ⟨h.1, h.2.1, h.2.2⟩
theorem inM_tb {s : List Nat} {f k : Nat} (h : (inM s f).testBit k = true) : k < 6 ∧ pz s k = f := by
  unfold inM at h
  rw [bits6_tb] at h
  simp at h
  exact h
/-- a state that goes with the house -/
def StG (n r : Nat) (b : Nat → Nat) (s : List Nat) : Prop := n ≤ 6 ∧ StOk n r b s
theorem ext6 {s s' : List Nat} (h1 : s.length = 6) (h2 : s'.length = 6) (h : ∀ k, k < 6 → pz s k = pz s' k) : s = s' := by
  apply List.ext_getElem (by rw [h1, h2])
  intro i a1 a2
  have := h i (by omega)
  unfold pz at this
  rw [List.getD_eq_getElem?_getD, List.getD_eq_getElem?_getD, List.getElem?_eq_getElem a1, List.getElem?_eq_getElem a2] at this
  exact this
section MV
variable {n r : Nat} {w b : Nat → Nat} {s : List Nat} {f : Nat} {q : Nat × Nat}
theorem mv_bits (hm : mv n w s f q) : q.1 < 64 ∧ q.2 < 64 ∧ (∀ k, q.1.testBit k = true → k < 6 ∧ pz s k = 6 ∧ (4 ≤ k ∨ w k = f)) ∧ (∀ k, q.2.testBit k = true → k < 6 ∧ pz s k = f) ∧ pop6 q.2 = pop6 q.1 ∧ q.1 ≠ 0 ∧ q.2 ≠ 0 := by
  obtain ⟨-, hq⟩ := hm
  obtain ⟨h1, h2, h3⟩ := pairs_mem.mp hq
  obtain ⟨a1, a2, a3⟩ := subs_mem.mp h1
  obtain ⟨c1, c2, c3⟩ := subs_mem.mp h2
  exact ⟨a1, c1, fun k hk => outM_tb (and_sub_tb a3 hk), fun k hk => inM_tb (and_sub_tb c3 hk), h3, a2, c2⟩
theorem mv_ok (hg : StG n r b s) (hm : mv n w s f q) : StG n r b (chg s f q.1 q.2) := by
  obtain ⟨h6, hl, h1, h2, h3⟩ := hg
  obtain ⟨-, -, ho, hi, -⟩ := mv_bits hm
  have hf := hm.1
  refine ⟨h6, rfl, fun k hk hr => ?_, fun k hk hr => ?_, fun k hk hk6 => ?_⟩
  · rw [chg_pz _ _ _ _ _ (by omega)]
    split
    · exact Or.inr (Or.inl rfl)
    · split
      · first | exact Or.inr (Or.inr rfl) | (rw [if_pos hk]; exact Or.inr (Or.inr rfl))
      · exact h1 k hk hr
  · rw [chg_pz _ _ _ _ _ (by omega)]
    have := h2 k hk hr
    split
    · next c => have := (hi k c).2; omega
    · split
      · next c => have := (ho k c).2.1; omega
      · exact this
  · rw [chg_pz _ _ _ _ _ hk6]
    split
    · exact Or.inr (Or.inl rfl)
    · split
      · first | exact Or.inl hf | (rw [if_neg (by omega)]; exact Or.inl hf)
      · exact h3 k hk hk6
theorem mv_t1 (hn : n ≤ 6) (hm : mv n w s f q) (g : Nat) (hg : g < 6) (k : Nat) (hk : k < 6) : t1 w (chg s f q.1 q.2) g k + (q.2.testBit k).toNat * (if f = g then 1 else 0) = t1 w s g k + (q.1.testBit k).toNat * (if f = g then 1 else 0) := by
  obtain ⟨-, -, ho, hi, -⟩ := mv_bits hm
  have hf := hm.1
  unfold t1
  rw [chg_pz _ _ _ _ _ hk]
  cases ci : q.2.testBit k with
  | true =>
    have hp := (hi k ci).2
    have co : q.1.testBit k = false := by
      cases c : q.1.testBit k with
      | false => rfl
      | true => have := (ho k c).2.1; omega
    rw [co, hp]
    have e1 : ¬ (6 = g) := by omega
    have e2 : ¬ (f = 7) := by omega
    have e3 : ¬ (g = 7) := by omega
    by_cases c : f = g <;> simp [e1, e2, e3, c]
  | false =>
    cases co : q.1.testBit k with
    | true =>
      obtain ⟨-, hp, hw⟩ := ho k co
      rw [hp]
      have e1 : ¬ (6 = g) := by omega
      have e2 : ¬ (7 = g) := by omega
      by_cases c4 : k < 4
      · have hw : w k = f := hw.resolve_left (by omega)
        by_cases c : f = g <;> simp [e1, e2, c4, hw, c]
      · have e3 : ¬ (f = 7) := by omega
        by_cases c : f = g <;> simp [e1, e2, c4, c, e3]
    | false => simp
theorem mv_t2 (hn : n ≤ 6) (hm : mv n w s f q) (k : Nat) (hk : k < 6) : t2 (chg s f q.1 q.2) k + (q.1.testBit k).toNat = t2 s k + (q.2.testBit k).toNat := by
  obtain ⟨-, -, ho, hi, -⟩ := mv_bits hm
  have hf := hm.1
  unfold t2
  rw [chg_pz _ _ _ _ _ hk]
  cases ci : q.2.testBit k with
  | true =>
    have hp := (hi k ci).2
    have co : q.1.testBit k = false := by
      cases c : q.1.testBit k with
      | false => rfl
      | true => have := (ho k c).2.1; omega
    have e2 : ¬ (f = 6) := by omega
    simp [co, hp, e2]
  | false =>
    cases co : q.1.testBit k with
    | true =>
      obtain ⟨-, hp, hw⟩ := ho k co
      have e2 : ¬ (f = 6) := by omega
      by_cases c4 : k < 4 <;> simp [hp, c4, e2]
    | false => simp
end MV
/-- what no halt changes -/
def Kin (w : Nat → Nat) (s s' : List Nat) : Prop := (∀ g, g < 6 → sum6 (t1 w s g) = sum6 (t1 w s' g)) ∧ sum6 (t2 s) = sum6 (t2 s') ∧ ∀ k, 4 ≤ k → k < 6 → (pz s k = 8 ↔ pz s' k = 8)
theorem Kin.rf (w : Nat → Nat) (s : List Nat) : Kin w s s := ⟨fun _ _ => rfl, rfl, fun _ _ _ => Iff.rfl⟩
theorem Kin.mv {n r : Nat} {w b : Nat → Nat} {s0 s : List Nat} {f : Nat} {q : Nat × Nat} (hk : Kin w s0 s) (hg : StG n r b s) (hm : mv n w s f q) : Kin w s0 (chg s f q.1 q.2) := by
  obtain ⟨h1, h2, h3⟩ := hk
  have hn := hg.1
  obtain ⟨-, -, ho, hi, hpop, -⟩ := mv_bits hm
  refine ⟨fun g hg6 => ?_, ?_, fun k hk4 hk6 => ?_⟩
  · rw [h1 g hg6]
    have e := fun k hk => mv_t1 hn hm g hg6 k hk
    have e0 := e 0 (by decide); have e1 := e 1 (by decide); have e2 := e 2 (by decide); have e3 := e 3 (by decide); have e4 := e 4 (by decide); have e5 := e 5 (by decide)
    unfold sum6
    unfold pop6 at hpop
    by_cases c : f = g
    · simp only [c, if_true, Nat.mul_one] at e0 e1 e2 e3 e4 e5 ⊢
      omega
    · simp only [c, if_false, Nat.mul_zero] at e0 e1 e2 e3 e4 e5 ⊢
      omega
  · rw [h2]
    have e := fun k hk => mv_t2 hn hm k hk
    have e0 := e 0 (by decide); have e1 := e 1 (by decide); have e2 := e 2 (by decide); have e3 := e 3 (by decide); have e4 := e 4 (by decide); have e5 := e 5 (by decide)
    unfold sum6
    unfold pop6 at hpop
    omega
  · rw [h3 k hk4 hk6, chg_pz _ _ _ _ _ hk6]
    have hf := hm.1
    split
    · next c => have := (hi k c).2; omega
    · split
      · next c => have := (ho k c).2.1; rw [if_neg (by omega)]; omega
      · exact Iff.rfl
def sd (s : List Nat) (k : Nat) : Nat := if pz s k = 6 then 1 else if pz s k = 7 then 2 else 0
def skey (s : List Nat) : Nat := sd s 0 + 3 * sd s 1 + 9 * sd s 2 + 27 * sd s 3 + 81 * (if pz s 4 ≤ pz s 5 then 0 else 1)
def one3 (d : Nat) : Nat := if d = 1 then 1 else 0
def rin (x : Nat) : Nat := one3 (x % 3) + one3 (x / 3 % 3) + one3 (x / 9 % 3) + one3 (x / 27 % 3)
def allow (c x : Nat) : Bool := decide (rin x ≤ c) && decide (c ≤ rin x + 2) && (decide (x < 81) || decide (c ≤ rin x + 1))
theorem allow_len : ∀ c, c < 7 → ((List.range 162).filter (allow c)).length ≤ 128 := by decide +kernel
theorem sd_lt (s : List Nat) (k : Nat) : sd s k < 3 := by unfold sd; split <;> (try split) <;> omega
theorem two_places {x y x' y' : Nat} (h : ∀ g, (if x = g then 1 else 0) + (if y = g then 1 else 0) = (if x' = g then 1 else 0) + (if y' = g then 1 else 0)) (ho : (if x ≤ y then 0 else 1) = (if x' ≤ y' then 0 else 1)) : x = x' ∧ y = y' := by
  have h1 := h x
  have h2 := h y
  have h3 := h x'
  have h4 := h y'
  rw [if_pos rfl] at h1
  simp only [if_pos] at h2 h3 h4
  by_cases c1 : x = x'
  · subst c1
    refine ⟨rfl, ?_⟩
    by_cases c2 : y = y'
    · exact c2
    · by_cases c3 : y = x
      · simp [c3] at h1
        by_cases c4 : y' = x
        · rw [c3, c4]
        · exact absurd h1 (by simp [c4])
      · have := h y
        simp [c3, c2, Ne.symm c2, Ne.symm c3] at this
        all_goals omega
  · have c5 : y' = x := by
      by_cases c : y' = x
      · exact c
      · have := h x
        simp [c, Ne.symm c1] at this
    subst c5
    have c6 : y = x' := by
      by_cases c : y = x'
      · exact c
      · have := h x'
        simp [c, c1] at this
    subst c6
    by_cases c7 : y' ≤ y
    · have : ¬ y ≤ y' := by omega
      simp [c7, this] at ho
    · have : y ≤ y' := by omega
      simp [c7, this] at ho
theorem skey_inj {n r : Nat} {w b : Nat → Nat} {s0 s s' : List Nat} (hs : StG n r b s) (hs' : StG n r b s') (hk : Kin w s0 s) (hk' : Kin w s0 s') (h : skey s = skey s') : s = s' := by
  have d0 := sd_lt s 0; have d1 := sd_lt s 1; have d2 := sd_lt s 2; have d3 := sd_lt s 3
  have d0' := sd_lt s' 0; have d1' := sd_lt s' 1; have d2' := sd_lt s' 2; have d3' := sd_lt s' 3
  have hz : (if pz s 4 ≤ pz s 5 then 0 else 1) < 2 := by split <;> decide
  have hz' : (if pz s' 4 ≤ pz s' 5 then 0 else 1) < 2 := by split <;> decide
  unfold skey at h
  have e0 : sd s 0 = sd s' 0 := by omega
  have e1 : sd s 1 = sd s' 1 := by omega
  have e2 : sd s 2 = sd s' 2 := by omega
  have e3 : sd s 3 = sd s' 3 := by omega
  have eo : (if pz s 4 ≤ pz s 5 then 0 else 1) = (if pz s' 4 ≤ pz s' 5 then 0 else 1) := by omega
  have rider : ∀ k, k < 4 → sd s k = sd s' k → pz s k = pz s' k := by
    intro k hk e
    obtain ⟨hn, -, a1, a2, -⟩ := hs
    obtain ⟨-, -, c1, c2, -⟩ := hs'
    by_cases hr : k < r
    · have x1 := a1 k hk hr
      have x2 := c1 k hk hr
      unfold sd at e
      rcases x1 with ⟨x1, x3⟩ | x1 | x1 <;> rcases x2 with ⟨x2, x4⟩ | x2 | x2 <;> rw [x1, x2] at e ⊢ <;> (try (simp at e)) <;> (try (split at e <;> (try split at e) <;> omega)) <;> omega
    · rw [a2 k hk (by omega), c2 k hk (by omega)]
  have p0 := rider 0 (by decide) e0
  have p1 := rider 1 (by decide) e1
  have p2 := rider 2 (by decide) e2
  have p3 := rider 3 (by decide) e3
  have cnt : ∀ g, (if pz s 4 = g then 1 else 0) + (if pz s 5 = g then 1 else 0) = (if pz s' 4 = g then 1 else 0) + (if pz s' 5 = g then 1 else 0) := by
    intro g
    rcases (show g < 6 ∨ g = 6 ∨ g = 8 ∨ (¬ g < 6 ∧ g ≠ 6 ∧ g ≠ 8) by omega) with q | q | q | q
    · have a := (hk.1 g q).symm.trans (hk'.1 g q)
      unfold sum6 t1 at a
      rw [p0, p1, p2, p3] at a
      simp only [show ¬ (4 < 4) from by decide, show ¬ (5 < 4) from by decide, false_and, if_false, Nat.add_zero] at a
      omega
    · subst q
      have a := hk.2.1.symm.trans hk'.2.1
      unfold sum6 t2 at a
      rw [p0, p1, p2, p3] at a
      omega
    · subst q
      have a4 := (hk.2.2 4 (by decide) (by decide)).symm.trans (hk'.2.2 4 (by decide) (by decide))
      have a5 := (hk.2.2 5 (by decide) (by decide)).symm.trans (hk'.2.2 5 (by decide) (by decide))
      simp only [a4, a5]
    · obtain ⟨hn, -, -, -, a⟩ := hs
      obtain ⟨-, -, -, -, c⟩ := hs'
      have a4 := a 4 (by decide) (by decide); have a5 := a 5 (by decide) (by decide)
      have c4 := c 4 (by decide) (by decide); have c5 := c 5 (by decide) (by decide)
      rw [if_neg (by omega), if_neg (by omega), if_neg (by omega), if_neg (by omega)]
  obtain ⟨p4, p5⟩ := two_places cnt eo
  refine ext6 hs.2.1 hs'.2.1 (fun k hk6 => ?_)
  rcases (show k = 0 ∨ k = 1 ∨ k = 2 ∨ k = 3 ∨ k = 4 ∨ k = 5 by omega) with rfl | rfl | rfl | rfl | rfl | rfl <;> assumption
theorem skey_allow {n r : Nat} {w b : Nat → Nat} {s0 s : List Nat} (hs : StG n r b s) (hk : Kin w s0 s) : skey s < 162 ∧ allow (sum6 (t2 s0)) (skey s) = true := by
  have d0 := sd_lt s 0; have d1 := sd_lt s 1; have d2 := sd_lt s 2; have d3 := sd_lt s 3
  have hz : (if pz s 4 ≤ pz s 5 then 0 else 1) < 2 := by split <;> decide
  have hlt : skey s < 162 := by unfold skey; omega
  refine ⟨hlt, ?_⟩
  have one : ∀ k, one3 (sd s k) = t2 s k := by
    intro k
    unfold one3 sd t2
    by_cases c1 : pz s k = 7 <;> by_cases c2 : pz s k = 6 <;> simp [c1, c2]
  have hrin : rin (skey s) = t2 s 0 + t2 s 1 + t2 s 2 + t2 s 3 := by
    rw [← one 0, ← one 1, ← one 2, ← one 3]
    unfold rin skey
    rw [show (sd s 0 + 3 * sd s 1 + 9 * sd s 2 + 27 * sd s 3 + 81 * (if pz s 4 ≤ pz s 5 then 0 else 1)) % 3 = sd s 0 by omega,
      show (sd s 0 + 3 * sd s 1 + 9 * sd s 2 + 27 * sd s 3 + 81 * (if pz s 4 ≤ pz s 5 then 0 else 1)) / 3 % 3 = sd s 1 by omega,
      show (sd s 0 + 3 * sd s 1 + 9 * sd s 2 + 27 * sd s 3 + 81 * (if pz s 4 ≤ pz s 5 then 0 else 1)) / 9 % 3 = sd s 2 by omega,
      show (sd s 0 + 3 * sd s 1 + 9 * sd s 2 + 27 * sd s 3 + 81 * (if pz s 4 ≤ pz s 5 then 0 else 1)) / 27 % 3 = sd s 3 by omega]
  have hc : sum6 (t2 s0) = rin (skey s) + t2 s 4 + t2 s 5 := by
    rw [hk.2.1, hrin]; rfl
  have h4 : t2 s 4 ≤ 1 := by unfold t2; split <;> decide
  have h5 : t2 s 5 ≤ 1 := by unfold t2; split <;> decide
  have h81 : skey s < 81 ∨ t2 s 4 + t2 s 5 ≤ 1 := by
    by_cases c : pz s 4 ≤ pz s 5
    · left; unfold skey; rw [if_pos c]; omega
    · right
      unfold t2
      by_cases c6 : pz s 4 = 6 <;> by_cases c7 : pz s 5 = 6 <;> simp [c6, c7]
      omega
  unfold allow
  simp only [Bool.and_eq_true, Bool.or_eq_true, decide_eq_true_eq]
  omega
theorem len_le_of : ∀ (l l' : List Nat), l.Nodup → (∀ x ∈ l, x ∈ l') → l.length ≤ l'.length
  | [], _, _, _ => Nat.zero_le _
  | a :: l, l', hn, h => by
    obtain ⟨h1, h2⟩ := List.nodup_cons.mp hn
    have ha := h a List.mem_cons_self
    have := len_le_of l (l'.erase a) h2 (fun x hx => (List.mem_erase_of_ne (fun e => h1 (by rw [← e]; exact hx))).mpr (h x (List.mem_cons_of_mem _ hx)))
    rw [List.length_erase_of_mem ha] at this
    have hp : 0 < l'.length := List.length_pos_of_mem ha
    rw [List.length_cons]
    omega
/-- a row of different states that halts lead to has at most 128 of them -/
theorem bound128 {n r : Nat} {w b : Nat → Nat} {s0 : List Nat} {L : List Met1} (hd : dif L) (h : ∀ e ∈ L, StG n r b e.1 ∧ Kin w s0 e.1) : L.length ≤ 128 := by
  have hc : sum6 (t2 s0) < 7 := by
    unfold sum6 t2
    split <;> split <;> split <;> split <;> split <;> split <;> decide
  have h1 : (L.map fun e => skey e.1).Nodup := by
    rw [List.nodup_iff_pairwise_ne, List.pairwise_map]
    refine List.Pairwise.imp_of_mem (fun {a b} ha hb hne e => ?_) hd
    exact hne (skey_inj (h a ha).1 (h b hb).1 (h a ha).2 (h b hb).2 e)
  have h2 := len_le_of _ ((List.range 162).filter (allow (sum6 (t2 s0)))) h1 (fun x hx => by
    obtain ⟨e, he, rfl⟩ := List.mem_map.mp hx
    obtain ⟨a1, a2⟩ := skey_allow (h e he).1 (h e he).2
    exact List.mem_filter.mpr ⟨List.mem_range.mpr a1, a2⟩)
  rw [List.length_map] at h2
  exact Nat.le_trans h2 (allow_len _ hc)
