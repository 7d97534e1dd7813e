/-! PURE ROWS: fewest halts, the first such row of them -/
def mv (n : Nat) (w : Nat → Nat) (s : List Nat) (f : Nat) (q : Nat × Nat) : Prop := f < n ∧ q ∈ pairs (outM w s f) (inM s f)
def mkey (f : Nat) (q : Nat × Nat) : Nat := f * 4096 + q.1 * 64 + q.2
def tgt (m : Nat) (s : List Nat) : Prop := ∀ k, k < 4 → m.testBit k = true → pz s k = 7
/-- in so many halts all of m can be done -/
def rch (n : Nat) (w : Nat → Nat) (m : Nat) : Nat → List Nat → Prop
  | 0, s => tgt m s
  | k + 1, s => ∃ f q, mv n w s f q ∧ rch n w m k (chg s f q.1 q.2)
section FAR
variable {n m : Nat} {w : Nat → Nat} {s0 : List Nat} {L : List Met1}
theorem BInv.closed (h : BInv n w s0 L L.length) {j f : Nat} {q : Nat × Nat} {p : Met1} (hp : L[j]? = some p) (hm : mv n w p.1 f q) : ∃ j' x, L[j']? = some x ∧ x.1 = chg p.1 f q.1 q.2 ∧ (j' = 0 ∨ x.2.1 < j ∨ (x.2.1 = j ∧ hkey x ≤ mkey f q)) :=
  h.2.2.2.2.2 j p (List.getElem?_eq_some_iff.mp hp).1 hp (mkE p.1 j f q) (allE_mem.mpr ⟨f, q, hm.1, hm.2, rfl⟩)
theorem BInv.parent (h : BInv n w s0 L L.length) {j : Nat} {e : Met1} (he : L[j]? = some e) (h0 : 0 < j) : e.2.1 < j ∧ ∃ p f q, L[e.2.1]? = some p ∧ mv n w p.1 f q ∧ e = mkE p.1 e.2.1 f q := by
  obtain ⟨-, h1, p, h2, h3⟩ := h.2.2.2.1 j e he h0
  obtain ⟨f, q, hf, hq, e1⟩ := allE_mem.mp h3
  exact ⟨h1, p, f, q, h2, ⟨hf, hq⟩, e1⟩
theorem hkey_mkE (s : List Nat) (i f : Nat) (q : Nat × Nat) : hkey (mkE s i f q) = mkey f q := rfl
theorem BInv.lt_of_lex (h : BInv n w s0 L L.length) {a b : Nat} {x y : Met1} (ha : 0 < a) (hb : 0 < b) (hx : L[a]? = some x) (hy : L[b]? = some y) (hl : lexL x y) : a < b := by
  rcases Nat.lt_trichotomy a b with q | q | q
  · exact q
  · subst q
    rw [hx] at hy
    cases hy
    rcases hl with r | ⟨-, r⟩ <;> omega
  · have := h.2.2.2.2.1 b a y x hb q hy hx
    rcases hl with r | ⟨r1, r2⟩ <;> rcases this with r3 | ⟨r3, r4⟩ <;> omega
/-- from a state of the row on: a state of the row, done, no deeper -/
theorem far_up (h : BInv n w s0 L L.length) : ∀ (k j : Nat) (p : Met1), L[j]? = some p → rch n w m k p.1 → ∃ t x, L[t]? = some x ∧ tgt m x.1 ∧ dep L t ≤ dep L j + k
  | 0, j, p, hp, hr => ⟨j, p, hp, hr, Nat.le_refl _⟩
  | k + 1, j, p, hp, hr => by
    obtain ⟨f, q, hm, hr⟩ := hr
    obtain ⟨j', x, hx, e, hc⟩ := h.closed hp hm
    rw [← e] at hr
    obtain ⟨t, y, h1, h2, h3⟩ := far_up h k j' x hx hr
    refine ⟨t, y, h1, h2, ?_⟩
    have hd : dep L j' ≤ dep L j + 1 := by
      rcases Nat.eq_zero_or_pos j' with z | z
      · subst z; rw [dep_zero]; omega
      · rw [dep_pos h hx z]
        have hj := (List.getElem?_eq_some_iff.mp hp).1
        have hle : x.2.1 ≤ j := by rcases hc with r | r | ⟨r, -⟩ <;> omega
        have := dep_mono h j x.2.1 hle hj
        omega
    omega
/-- a way back to the first state -/
theorem far_down (h : BInv n w s0 L L.length) : ∀ (j k : Nat) (p : Met1), L[j]? = some p → rch n w m k p.1 → rch n w m (k + dep L j) s0 := by
  intro j
  induction j using Nat.strongRecOn with
  | ind j ih =>
    intro k p hp hr
    rcases Nat.eq_zero_or_pos j with z | z
    · subst z
      rw [h.1] at hp
      cases hp
      rw [dep_zero]; exact hr
    · obtain ⟨h1, p', f, q, h2, h3, h4⟩ := h.parent hp z
      rw [dep_pos h hp z]
      have h5 : rch n w m (k + 1) p'.1 := ⟨f, q, h3, by rw [h4] at hr; exact hr⟩
      have := ih p.2.1 h1 (k + 1) p' h2 h5
      rw [show k + (dep L p.2.1 + 1) = k + 1 + dep L p.2.1 by omega]
      exact this
/-- the first place where all of m are done -/
def fstT (m : Nat) (L : List Met1) (t : Nat) (x : Met1) : Prop := L[t]? = some x ∧ tgt m x.1 ∧ ∀ j y, j < t → L[j]? = some y → ¬ tgt m y.1
theorem fst_least (h : BInv n w s0 L L.length) {t : Nat} {x : Met1} (ht : fstT m L t x) : rch n w m (dep L t) s0 ∧ ∀ k, rch n w m k s0 → dep L t ≤ k := by
  constructor
  · have := far_down (m := m) h t 0 x ht.1 ht.2.1
    rw [Nat.zero_add] at this; exact this
  · intro k hk
    obtain ⟨t', y, h1, h2, h3⟩ := far_up h k 0 _ h.1 hk
    rw [dep_zero, Nat.zero_add] at h3
    refine Nat.le_trans ?_ h3
    apply dep_mono h t' t ?_ (List.getElem?_eq_some_iff.mp h1).1
    rcases Nat.lt_or_ge t' t with q | q
    · exact absurd h2 (ht.2.2 t' y q h1)
    · exact q
theorem no_fst (h : BInv n w s0 L L.length) (hn : ∀ (j : Nat) (y : Met1), L[j]? = some y → ¬ tgt m y.1) (k : Nat) : ¬ rch n w m k s0 := by
  intro hk
  obtain ⟨t', y, h1, h2, -⟩ := far_up h k 0 _ h.1 hk
  exact hn t' y h1 h2
def upL (L : List Met1) : Nat → Nat → Nat
  | 0, t => t
  | k + 1, t => (L.getD (upL L k t) ([], 0, 0, 0, 0)).2.1
theorem getD_at {j : Nat} {e : Met1} (h : L[j]? = some e) : L.getD j ([], 0, 0, 0, 0) = e := by rw [List.getD_eq_getElem?_getD, h]; rfl
theorem upL_spec (h : BInv n w s0 L L.length) {t : Nat} (ht : t < L.length) : ∀ k, k ≤ dep L t → upL L k t < L.length ∧ dep L (upL L k t) + k = dep L t
  | 0, _ => ⟨ht, rfl⟩
  | k + 1, hk => by
    obtain ⟨h1, h2⟩ := upL_spec h ht k (by omega)
    have hp : L[upL L k t]? = some L[upL L k t] := List.getElem?_eq_getElem h1
    have h0 : 0 < upL L k t := by
      rcases Nat.eq_zero_or_pos (upL L k t) with z | z
      · rw [z, dep_zero] at h2; omega
      · exact z
    have e : upL L (k + 1) t = L[upL L k t].2.1 := by
      show (L.getD (upL L k t) ([], 0, 0, 0, 0)).2.1 = _
      rw [getD_at hp]
    obtain ⟨h3, -⟩ := h.parent hp h0
    have h4 := dep_pos h hp h0
    rw [e]
    exact ⟨by omega, by omega⟩
/-- nothing of the row stands before what lies on the way to the first place, as deep as it and as near to an end -/
theorem way_first (h : BInv n w s0 L L.length) {t : Nat} {x : Met1} (ht : fstT m L t x) : ∀ (k a : Nat) (p : Met1), k ≤ dep L t → L[a]? = some p → dep L a + k = dep L t → rch n w m k p.1 → ¬ a < upL L k t
  | 0, a, p, _, hp, _, hr, hlt => ht.2.2 a p hlt hp hr
  | k + 1, a, p, hk, hp, hd, hr, hlt => by
    have htl := (List.getElem?_eq_some_iff.mp ht.1).1
    obtain ⟨f, q, hm, hr⟩ := hr
    obtain ⟨j', y, hy, e, hc⟩ := h.closed hp hm
    rw [← e] at hr
    obtain ⟨u1, u2⟩ := upL_spec h htl k (by omega)
    have hc' : L[upL L k t]? = some L[upL L k t] := List.getElem?_eq_getElem u1
    have u0 : 0 < upL L k t := by
      rcases Nat.eq_zero_or_pos (upL L k t) with z | z
      · rw [z, dep_zero] at u2; omega
      · exact z
    have eu : upL L (k + 1) t = L[upL L k t].2.1 := by
      show (L.getD (upL L k t) ([], 0, 0, 0, 0)).2.1 = _
      rw [getD_at hc']
    have hlow : dep L t ≤ k + dep L j' := (fst_least h ht).2 _ (far_down h j' k y hy hr)
    have j0 : 0 < j' := by
      rcases Nat.eq_zero_or_pos j' with z | z
      · rw [z, dep_zero] at hlow; omega
      · exact z
    have hle : y.2.1 ≤ a := by rcases hc with r | r | ⟨r, -⟩ <;> omega
    have hal := (List.getElem?_eq_some_iff.mp hp).1
    have hdy := dep_pos h hy j0
    have hm2 := dep_mono h a y.2.1 hle hal
    have hlt2 : j' < upL L k t := h.lt_of_lex j0 u0 hy hc' (Or.inl (by rw [← eu]; omega))
    exact way_first h ht k j' y (by omega) hy (by omega) hr hlt2
/-- the reference's next halt is the one of the way -/
theorem way_next (h : BInv n w s0 L L.length) {t : Nat} {x : Met1} (ht : fstT m L t x) {k : Nat} (hk : k + 1 ≤ dep L t) {p e : Met1} (hp : L[upL L (k + 1) t]? = some p) (he : L[upL L k t]? = some e) :
    (∃ f q, mv n w p.1 f q ∧ e = mkE p.1 (upL L (k + 1) t) f q ∧ rch n w m k e.1) ∧ ∀ f q, mv n w p.1 f q → rch n w m k (chg p.1 f q.1 q.2) → hkey e ≤ mkey f q := by
  have htl := (List.getElem?_eq_some_iff.mp ht.1).1
  obtain ⟨u1, u2⟩ := upL_spec h htl k (by omega)
  obtain ⟨v1, v2⟩ := upL_spec h htl (k + 1) hk
  have u0 : 0 < upL L k t := by
    rcases Nat.eq_zero_or_pos (upL L k t) with z | z
    · rw [z, dep_zero] at u2; omega
    · exact z
  have eu : upL L (k + 1) t = e.2.1 := by
    show (L.getD (upL L k t) ([], 0, 0, 0, 0)).2.1 = _
    rw [getD_at he]
  have back : ∀ i, i ≤ dep L t → ∀ y, L[upL L i t]? = some y → rch n w m i y.1 := by
    intro i
    induction i with
    | zero =>
      intro _ y hy
      have hy : L[t]? = some y := hy
      rw [ht.1] at hy; cases hy; exact ht.2.1
    | succ i ih =>
      intro hi y hy
      obtain ⟨i1, i2⟩ := upL_spec h htl i (by omega)
      have hz : L[upL L i t]? = some L[upL L i t] := List.getElem?_eq_getElem i1
      have i0 : 0 < upL L i t := by
        rcases Nat.eq_zero_or_pos (upL L i t) with z | z
        · rw [z, dep_zero] at i2; omega
        · exact z
      have e2 : upL L (i + 1) t = L[upL L i t].2.1 := by
        show (L.getD (upL L i t) ([], 0, 0, 0, 0)).2.1 = _
        rw [getD_at hz]
      obtain ⟨-, p', f, q, h2, h3, h4⟩ := h.parent hz i0
      rw [← e2, hy] at h2
      cases h2
      refine ⟨f, q, h3, ?_⟩
      have := ih (by omega) _ hz
      rw [h4] at this
      exact this
  constructor
  · obtain ⟨-, p', f, q, h2, h3, h4⟩ := h.parent he u0
    rw [← eu, hp] at h2
    cases h2
    exact ⟨f, q, h3, by rw [eu]; exact h4, back k (by omega) e he⟩
  · intro f q hm hr
    rcases Nat.lt_or_ge (mkey f q) (hkey e) with c | c
    · exfalso
      obtain ⟨j', y, hy, e1, hc⟩ := h.closed hp hm
      rw [← e1] at hr
      have hlow : dep L t ≤ k + dep L j' := (fst_least h ht).2 _ (far_down h j' k y hy hr)
      have j0 : 0 < j' := by
        rcases Nat.eq_zero_or_pos j' with z | z
        · rw [z, dep_zero] at hlow; omega
        · exact z
      have hle : y.2.1 ≤ upL L (k + 1) t := by rcases hc with r | r | ⟨r, -⟩ <;> omega
      have hdy := dep_pos h hy j0
      have hm2 := dep_mono h _ y.2.1 hle v1
      have hlex : lexL y e := by
        rcases hc with r | r | ⟨r1, r2⟩
        · omega
        · exact Or.inl (by rw [← eu]; exact r)
        · exact Or.inr ⟨by rw [← eu]; exact r1, by omega⟩
      exact way_first h ht k j' y (by omega) hy (by omega) hr (h.lt_of_lex j0 u0 hy he hlex)
    · exact c
end FAR
