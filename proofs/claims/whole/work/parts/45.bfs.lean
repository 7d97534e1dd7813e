/-! PURE ROWS: the row of states that can come of halts, nearest first -/
def hkey (e : Met1) : Nat := e.2.2.1 * 4096 + e.2.2.2.1 * 64 + e.2.2.2.2
def mkE (s : List Nat) (i f : Nat) (q : Nat × Nat) : Met1 := (chg s f q.1 q.2, i, f, q.1, q.2)
def allE (n : Nat) (w : Nat → Nat) (i : Nat) (s : List Nat) : List Met1 := (List.range n).flatMap fun f => (pairs (outM w s f) (inM s f)).map (mkE s i f)
def fm (L es : List Met1) : List Met1 := es.foldl meetA L
theorem fm_app (L a b : List Met1) : fm L (a ++ b) = fm (fm L a) b := by unfold fm; rw [List.foldl_append]
theorem spreadF_fm (w : Nat → Nat) (i : Nat) (s : List Nat) (L : List Met1) (f : Nat) : spreadF w i s L f = fm L ((pairs (outM w s f) (inM s f)).map (mkE s i f)) := by
  unfold spreadF fm
  rw [List.foldl_map]
  rfl
theorem spread_fold (w : Nat → Nat) (i : Nat) (s : List Nat) : ∀ (fs : List Nat) (L : List Met1), fs.foldl (spreadF w i s) L = fm L (fs.flatMap fun f => (pairs (outM w s f) (inM s f)).map (mkE s i f))
  | [], L => rfl
  | f :: fs, L => by
    rw [List.foldl_cons, spread_fold w i s fs, List.flatMap_cons, fm_app, spreadF_fm]
theorem spreadA_fm (n : Nat) (w : Nat → Nat) (L : List Met1) (i : Nat) : spreadA n w L i = fm L (allE n w i (L.getD i ([], 0, 0, 0, 0)).1) := spread_fold w i _ _ L
/-! the masks' parts, in order -/
theorem subs_mem {m x : Nat} : x ∈ subs m ↔ x < 64 ∧ x ≠ 0 ∧ x &&& m = x := by
  unfold subs
  rw [List.mem_filter, List.mem_range]
  simp
theorem subs_sorted (m : Nat) : (subs m).Pairwise (· < ·) := List.Pairwise.filter _ List.pairwise_lt_range
theorem pairs_mem {o i : Nat} {q : Nat × Nat} : q ∈ pairs o i ↔ q.1 ∈ subs o ∧ q.2 ∈ subs i ∧ pop6 q.2 = pop6 q.1 := by
  unfold pairs
  simp only [List.mem_flatMap, List.mem_map, List.mem_filter, beq_iff_eq]
  constructor
  · rintro ⟨x, hx, y, ⟨hy, hp⟩, rfl⟩
    exact ⟨hx, hy, hp⟩
  · rintro ⟨hx, hy, hp⟩
    exact ⟨q.1, hx, q.2, ⟨hy, hp⟩, rfl⟩
theorem pairs_sorted (o i : Nat) : (pairs o i).Pairwise fun a b => a.1 * 64 + a.2 < b.1 * 64 + b.2 := by
  unfold pairs
  rw [List.pairwise_flatMap]
  constructor
  · intro x _
    rw [List.pairwise_map]
    refine List.Pairwise.imp (fun {a b} h => ?_) (List.Pairwise.filter _ (subs_sorted i))
    show x * 64 + a < x * 64 + b
    omega
  · refine List.Pairwise.imp (fun {a b} h => ?_) (subs_sorted o)
    intro p hp q hq
    obtain ⟨y, hy, rfl⟩ := List.mem_map.mp hp
    obtain ⟨z, hz, rfl⟩ := List.mem_map.mp hq
    have h1 := (subs_mem.mp (List.mem_filter.mp hy).1).1
    show a * 64 + y < b * 64 + z
    omega
theorem allE_sorted (n : Nat) (w : Nat → Nat) (i : Nat) (s : List Nat) : (allE n w i s).Pairwise fun a b => hkey a < hkey b := by
  unfold allE
  rw [List.pairwise_flatMap]
  constructor
  · intro f _
    rw [List.pairwise_map]
    refine List.Pairwise.imp (fun {a b} h => ?_) (pairs_sorted _ _)
    show f * 4096 + a.1 * 64 + a.2 < f * 4096 + b.1 * 64 + b.2
    omega
  · refine List.Pairwise.imp (fun {a b} h => ?_) List.pairwise_lt_range
    intro p hp q hq
    obtain ⟨y, hy, rfl⟩ := List.mem_map.mp hp
    obtain ⟨z, hz, rfl⟩ := List.mem_map.mp hq
    have h1 := pairs_mem.mp hy
    have h2 := (subs_mem.mp h1.1).1
    have h3 := (subs_mem.mp h1.2.1).1
    show a * 4096 + y.1 * 64 + y.2 < b * 4096 + z.1 * 64 + z.2
    omega
theorem allE_mem {n : Nat} {w : Nat → Nat} {i : Nat} {s : List Nat} {e : Met1} : e ∈ allE n w i s ↔ ∃ f q, f < n ∧ q ∈ pairs (outM w s f) (inM s f) ∧ e = mkE s i f q := by
  unfold allE
  simp only [List.mem_flatMap, List.mem_range, List.mem_map]
  constructor
  · rintro ⟨f, hf, q, hq, rfl⟩
    exact ⟨f, q, hf, hq, rfl⟩
  · rintro ⟨f, q, hf, hq, rfl⟩
    exact ⟨f, hf, q, hq, rfl⟩
theorem allE_from {n : Nat} {w : Nat → Nat} {i : Nat} {s : List Nat} {e : Met1} (h : e ∈ allE n w i s) : e.2.1 = i := by
  obtain ⟨f, q, -, -, rfl⟩ := allE_mem.mp h
  rfl
/-! laying what is new behind the row -/
def dif (L : List Met1) : Prop := L.Pairwise fun a b => a.1 ≠ b.1
theorem meetA_old {L : List Met1} {e : Met1} (h : ∃ x ∈ L, x.1 = e.1) : meetA L e = L := by
  unfold meetA
  rw [if_pos]
  obtain ⟨x, hx, he⟩ := h
  rw [List.any_eq_true]
  exact ⟨x, hx, by rw [he]; exact beq_self_eq_true _⟩
theorem meetA_new {L : List Met1} {e : Met1} (h : ¬ ∃ x ∈ L, x.1 = e.1) : meetA L e = L ++ [e] := by
  unfold meetA
  rw [if_neg]
  rw [List.any_eq_true]
  rintro ⟨x, hx, he⟩
  exact h ⟨x, hx, eq_of_beq he⟩
theorem fm_spec : ∀ (es L : List Met1), es.Pairwise (fun a b => hkey a < hkey b) → dif L → ∃ N, fm L es = L ++ N ∧ N.Sublist es ∧ dif (L ++ N) ∧ ∀ e ∈ es, (∃ x ∈ L, x.1 = e.1) ∨ ∃ x ∈ N, x.1 = e.1 ∧ hkey x ≤ hkey e
  | [], L, _, hd => ⟨[], by simp [fm], List.Sublist.refl _, by rw [List.append_nil]; exact hd, fun e h => absurd h List.not_mem_nil⟩
  | e :: es, L, hs, hd => by
    obtain ⟨h1, h2⟩ := List.pairwise_cons.mp hs
    by_cases c : ∃ x ∈ L, x.1 = e.1
    · obtain ⟨N, a1, a2, a3, a4⟩ := fm_spec es L h2 hd
      refine ⟨N, ?_, a2.trans (List.sublist_cons_self e es), a3, fun e' he => ?_⟩
      · show fm (meetA L e) es = _
        rw [meetA_old c, a1]
      · rcases List.mem_cons.mp he with rfl | he
        · exact Or.inl c
        · exact a4 e' he
    · have hd2 : dif (L ++ [e]) := by
        unfold dif
        rw [List.pairwise_append]
        refine ⟨hd, List.pairwise_singleton _ _, fun a ha b hb => ?_⟩
        rw [List.mem_singleton.mp hb]
        exact fun q => c ⟨a, ha, q⟩
      obtain ⟨N, a1, a2, a3, a4⟩ := fm_spec es (L ++ [e]) h2 hd2
      refine ⟨e :: N, ?_, List.Sublist.cons_cons e a2, ?_, fun e' he => ?_⟩
      · show fm (meetA L e) es = _
        rw [meetA_new c, a1, List.append_assoc]; rfl
      · rw [List.append_assoc] at a3; exact a3
      · rcases List.mem_cons.mp he with rfl | he
        · exact Or.inr ⟨_, List.mem_cons_self, rfl, Nat.le_refl _⟩
        · rcases a4 e' he with ⟨x, hx, q⟩ | ⟨x, hx, q, q2⟩
          · rcases List.mem_append.mp hx with hx | hx
            · exact Or.inl ⟨x, hx, q⟩
            · rw [List.mem_singleton.mp hx] at q
              exact Or.inr ⟨e, List.mem_cons_self, q, Nat.le_of_lt (h1 e' he)⟩
          · exact Or.inr ⟨x, List.mem_cons_of_mem _ hx, q, q2⟩
def lexL (a b : Met1) : Prop := a.2.1 < b.2.1 ∨ (a.2.1 = b.2.1 ∧ hkey a < hkey b)
/-- what holds of the row when the first i states have been gone through -/
def BInv (n : Nat) (w : Nat → Nat) (s0 : List Nat) (L : List Met1) (i : Nat) : Prop :=
  L[0]? = some (s0, 0, 0, 0, 0) ∧ dif L ∧ i ≤ L.length ∧ (∀ j e, L[j]? = some e → 0 < j → e.2.1 < i ∧ e.2.1 < j ∧ ∃ p, L[e.2.1]? = some p ∧ e ∈ allE n w e.2.1 p.1) ∧
  (∀ a b x y, 0 < a → a < b → L[a]? = some x → L[b]? = some y → lexL x y) ∧
  ∀ k p, k < i → L[k]? = some p → ∀ e ∈ allE n w k p.1, ∃ j x, L[j]? = some x ∧ x.1 = e.1 ∧ (j = 0 ∨ x.2.1 < k ∨ (x.2.1 = k ∧ hkey x ≤ hkey e))
theorem BInv.start (n : Nat) (w : Nat → Nat) (s0 : List Nat) : BInv n w s0 [(s0, 0, 0, 0, 0)] 0 := by
  refine ⟨rfl, List.pairwise_singleton _ _, Nat.zero_le _, fun j e h hj => ?_, fun a b x y ha hab h1 h2 => ?_, fun k p hk => absurd hk (Nat.not_lt_zero _)⟩
  · have := (List.getElem?_eq_some_iff.mp h).1
    simp at this
    omega
  · have := (List.getElem?_eq_some_iff.mp h2).1
    simp at this
    omega
theorem BInv.step {n : Nat} {w : Nat → Nat} {s0 : List Nat} {L : List Met1} {i : Nat} (h : BInv n w s0 L i) (hi : i < L.length) : BInv n w s0 (spreadA n w L i) (i + 1) ∧ ∃ N, spreadA n w L i = L ++ N := by
  obtain ⟨h0, h1, h2, h3, h4, h5⟩ := h
  have hp : L[i]? = some L[i] := List.getElem?_eq_getElem hi
  have hg : (L.getD i ([], 0, 0, 0, 0)) = L[i] := by rw [List.getD_eq_getElem?_getD, hp]; rfl
  rw [spreadA_fm, hg]
  obtain ⟨N, a1, a2, a3, a4⟩ := fm_spec (allE n w i L[i].1) L (allE_sorted n w i _) h1
  rw [a1]
  have hN : ∀ e ∈ N, e ∈ allE n w i L[i].1 := fun e he => a2.subset he
  have hNs : N.Pairwise fun a b => hkey a < hkey b := List.Pairwise.sublist a2 (allE_sorted n w i _)
  have hl : 0 < L.length := by omega
  have look : ∀ j e, (L ++ N)[j]? = some e → (j < L.length ∧ L[j]? = some e) ∨ (L.length ≤ j ∧ N[j - L.length]? = some e) := by
    intro j e he
    by_cases q : j < L.length
    · rw [List.getElem?_append_left q] at he
      exact Or.inl ⟨q, he⟩
    · rw [List.getElem?_append_right (by omega)] at he
      exact Or.inr ⟨by omega, he⟩
  refine ⟨⟨by rw [List.getElem?_append_left hl]; exact h0, a3, by rw [List.length_append]; omega, fun j e he hj => ?_, fun a b x y ha hab hx hy => ?_, fun k p hk hp2 e he => ?_⟩, N, rfl⟩
  · rcases look j e he with ⟨q, he⟩ | ⟨q, he⟩
    · obtain ⟨b1, b2, p, b3, b4⟩ := h3 j e he hj
      refine ⟨by omega, b2, p, ?_, b4⟩
      rw [List.getElem?_append_left (by omega)]; exact b3
    · have hm := hN e (List.mem_of_getElem? he)
      have hf := allE_from hm
      rw [hf]
      refine ⟨by omega, by omega, L[i], ?_, hm⟩
      rw [List.getElem?_append_left hi]; exact hp
  · rcases look a x hx with ⟨q, hx⟩ | ⟨q, hx⟩ <;> rcases look b y hy with ⟨q2, hy⟩ | ⟨q2, hy⟩
    · exact h4 a b x y ha hab hx hy
    · have hf := allE_from (hN y (List.mem_of_getElem? hy))
      have := (h3 a x hx ha).1
      exact Or.inl (by omega)
    · omega
    · have hf := allE_from (hN y (List.mem_of_getElem? hy))
      have hf2 := allE_from (hN x (List.mem_of_getElem? hx))
      refine Or.inr ⟨by omega, ?_⟩
      obtain ⟨la, ea⟩ := List.getElem?_eq_some_iff.mp hx
      obtain ⟨lb, eb⟩ := List.getElem?_eq_some_iff.mp hy
      rw [← ea, ← eb]
      exact List.pairwise_iff_getElem.mp hNs _ _ la lb (by omega)
  · by_cases q : k < i
    · have hk2 : k < L.length := by omega
      rw [List.getElem?_append_left hk2] at hp2
      obtain ⟨j, x, b1, b2, b3⟩ := h5 k p q hp2 e he
      have hj := (List.getElem?_eq_some_iff.mp b1).1
      exact ⟨j, x, by rw [List.getElem?_append_left hj]; exact b1, b2, b3⟩
    · have hki : k = i := by omega
      subst hki
      rw [List.getElem?_append_left hi, hp] at hp2
      cases hp2
      rcases a4 e he with ⟨x, hx, b1⟩ | ⟨x, hx, b1, b2⟩
      · obtain ⟨j, hj⟩ := List.getElem?_of_mem hx
        have hjl := (List.getElem?_eq_some_iff.mp hj).1
        refine ⟨j, x, by rw [List.getElem?_append_left hjl]; exact hj, b1, ?_⟩
        rcases Nat.eq_zero_or_pos j with z | z
        · exact Or.inl z
        · exact Or.inr (Or.inl (h3 j x hj z).1)
      · obtain ⟨j, hj⟩ := List.getElem?_of_mem hx
        refine ⟨L.length + j, x, by rw [List.getElem?_append_right (by omega), Nat.add_sub_cancel_left]; exact hj, b1, Or.inr (Or.inr ⟨allE_from (hN x hx), b2⟩)⟩
theorem bfsA_spec (n : Nat) (w : Nat → Nat) (s0 : List Nat) : ∀ (k i : Nat) (L : List Met1), BInv n w s0 L i → ∃ i', BInv n w s0 (bfsA n w k i L) i' ∧ (i' = (bfsA n w k i L).length ∨ i' = i + k)
  | 0, i, L, h => ⟨i, h, Or.inr rfl⟩
  | k + 1, i, L, h => by
    unfold bfsA
    by_cases c : i < L.length
    · rw [if_pos c]
      obtain ⟨i', a, b⟩ := bfsA_spec n w s0 k (i + 1) _ (h.step c).1
      exact ⟨i', a, b.elim Or.inl (fun q => Or.inr (by omega))⟩
    · rw [if_neg c]
      exact ⟨i, h, Or.inl (Nat.le_antisymm h.2.2.1 (Nat.le_of_not_lt c))⟩
theorem bfs_spec {n : Nat} {w : Nat → Nat} {s0 : List Nat} (hl : (bfs n w s0).length ≤ 128) : BInv n w s0 (bfs n w s0) (bfs n w s0).length := by
  obtain ⟨i', h, q⟩ := bfsA_spec n w s0 128 0 _ (BInv.start n w s0)
  have : i' = (bfs n w s0).length := by
    rcases q with q | q
    · exact q
    · have h1 : i' ≤ (bfs n w s0).length := h.2.2.1
      omega
  rw [← this]; exact h
/-! how many halts -/
def depA (L : List Met1) : Nat → Nat → Nat
  | 0, _ => 0
  | k + 1, j => if j = 0 then 0 else depA L k (L.getD j ([], 0, 0, 0, 0)).2.1 + 1
def dep (L : List Met1) (j : Nat) : Nat := depA L (j + 1) j
theorem depA_fuel {n : Nat} {w : Nat → Nat} {s0 : List Nat} {L : List Met1} {i : Nat} (h : BInv n w s0 L i) : ∀ (k k' j : Nat), j < L.length → j < k → j < k' → depA L k j = depA L k' j
  | 0, _, j, _, hk, _ => absurd hk (Nat.not_lt_zero _)
  | _ + 1, 0, j, _, _, hk => absurd hk (Nat.not_lt_zero _)
  | k + 1, k' + 1, j, hj, h1, h2 => by
    unfold depA
    by_cases c : j = 0
    · rw [if_pos c, if_pos c]
    · rw [if_neg c, if_neg c]
      have hp : L[j]? = some L[j] := List.getElem?_eq_getElem hj
      have hg : (L.getD j ([], 0, 0, 0, 0)) = L[j] := by rw [List.getD_eq_getElem?_getD, hp]; rfl
      rw [hg]
      have := (h.2.2.2.1 j L[j] hp (by omega)).2.1
      rw [depA_fuel h k k' L[j].2.1 (by omega) (by omega) (by omega)]
theorem dep_zero (L : List Met1) : dep L 0 = 0 := rfl
theorem dep_pos {n : Nat} {w : Nat → Nat} {s0 : List Nat} {L : List Met1} {i j : Nat} {e : Met1} (h : BInv n w s0 L i) (hj : L[j]? = some e) (h0 : 0 < j) : dep L j = dep L e.2.1 + 1 := by
  have hl := (List.getElem?_eq_some_iff.mp hj).1
  have hg : (L.getD j ([], 0, 0, 0, 0)) = e := by rw [List.getD_eq_getElem?_getD, hj]; rfl
  have hf := (h.2.2.2.1 j e hj h0).2.1
  unfold dep
  rw [depA, if_neg (by omega), hg, depA_fuel h j (e.2.1 + 1) e.2.1 (by omega) hf (by omega)]
theorem dep_mono {n : Nat} {w : Nat → Nat} {s0 : List Nat} {L : List Met1} {i : Nat} (h : BInv n w s0 L i) : ∀ (b a : Nat), a ≤ b → b < L.length → dep L a ≤ dep L b := by
  intro b
  induction b using Nat.strongRecOn with
  | ind b ih =>
    intro a hab hb
    rcases Nat.eq_zero_or_pos a with z | z
    · subst z; rw [dep_zero]; exact Nat.zero_le _
    · have hpb : L[b]? = some L[b] := List.getElem?_eq_getElem hb
      have hpa : L[a]? = some L[a] := List.getElem?_eq_getElem (by omega)
      rw [dep_pos h hpa z, dep_pos h hpb (by omega)]
      have fb := (h.2.2.2.1 b _ hpb (by omega)).2.1
      have hle : L[a].2.1 ≤ L[b].2.1 := by
        rcases Nat.lt_or_ge a b with q | q
        · rcases h.2.2.2.2.1 a b _ _ z q hpa hpb with r | r
          · omega
          · omega
        · have : a = b := by omega
          subst this; exact Nat.le_refl _
      have := ih L[b].2.1 fb L[a].2.1 hle (by omega)
      omega
