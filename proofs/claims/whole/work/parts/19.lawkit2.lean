/-! the law's kit, calls that change cells in place -/
def updAll : va_W → List Nat → va_W → va_W
  | ws, i :: is, c :: cs => updAll (ws.set i c) is cs
  | ws, _, _ => ws
theorem updAll_fst : ∀ (is : List Nat) (cs ws : va_W), (∀ j : Nat, ∀ q : Nat × va_E, cs[j]? = some q → ∀ i : Nat, is[j]? = some i → (ws[i]?).map Prod.fst = some q.1) → (updAll ws is cs).map Prod.fst = ws.map Prod.fst
  | [], cs, ws, _ => by cases cs <;> rfl
  | i :: is, [], ws, _ => rfl
  | i :: is, c :: cs, ws, h => by
    have h0 := h 0 c rfl i rfl
    have e : (ws.set i c).map Prod.fst = ws.map Prod.fst := by
      apply List.ext_getElem?
      intro k
      rw [List.getElem?_map, List.getElem?_map, List.getElem?_set]
      by_cases hk : i = k
      · subst hk
        rw [if_pos rfl]
        have hl : i < ws.length := by
          rcases Nat.lt_or_ge i ws.length with q | q
          · exact q
          · rw [List.getElem?_eq_none q] at h0; cases h0
        rw [if_pos hl, h0]; rfl
      · rw [if_neg hk]
    show (updAll (ws.set i c) is cs).map Prod.fst = _
    rw [updAll_fst is cs (ws.set i c) ?_, e]
    intro j q hq i' hi'
    have h1 := h (j + 1) q hq i' hi'
    have h2 : ((ws.set i c).map Prod.fst)[i']? = (ws.map Prod.fst)[i']? := by rw [e]
    rw [List.getElem?_map, List.getElem?_map] at h2
    rw [h2]; exact h1
theorem updAll_mem : ∀ (is : List Nat) (cs ws : va_W) (q : Nat × va_E), q ∈ updAll ws is cs → q ∈ cs ∨ ∃ k : Nat, k ∉ is.take cs.length ∧ ws[k]? = some q
  | [], cs, ws, q, h => by
    have h : q ∈ ws := by cases cs <;> exact h
    obtain ⟨k, hk⟩ := List.getElem?_of_mem h
    exact Or.inr ⟨k, by simp, hk⟩
  | i :: is, [], ws, q, h => by
    have h : q ∈ ws := h
    obtain ⟨k, hk⟩ := List.getElem?_of_mem h
    exact Or.inr ⟨k, by simp, hk⟩
  | i :: is, c :: cs, ws, q, h => by
    rcases updAll_mem is cs (ws.set i c) q h with h | ⟨k, h1, h2⟩
    · exact Or.inl (List.mem_cons_of_mem _ h)
    · rw [List.getElem?_set] at h2
      by_cases hk : i = k
      · rw [if_pos hk] at h2
        split at h2
        · cases h2; exact Or.inl List.mem_cons_self
        · cases h2
      · rw [if_neg hk] at h2
        refine Or.inr ⟨k, ?_, h2⟩
        simp only [List.length_cons, List.take_succ_cons, List.mem_cons]
        rintro (e | e)
        · exact hk e.symm
        · exact h1 e
theorem kJoinS {D : va_G} {A0 : Nat → Prop} {ws wc w1 X : va_W} {H H1 : Heap} (hB0 : kX D A0 ws X H) (isC : List Nat) (hC : isC.map (fun i => ws[i]?) = wc.map some) (hf : w1.map Prod.fst = wc.map Prod.fst)
    (hk : ∀ q : Nat, q < H.size → ¬ va_A wc H.size q → H1[q]? = H[q]?) (hP1 : va_P D kCl w1 H1) : kX D A0 (updAll ws isC w1) X H1 := by
  obtain ⟨hP, hD, hPX, hDX, hx⟩ := hB0
  have hlen : isC.length = wc.length := by have := congrArg List.length hC; simpa using this
  have hlen1 : w1.length = wc.length := by have := congrArg List.length hf; simpa using this
  have at' : ∀ (j : Nat) (q : Nat × va_E), wc[j]? = some q → ∃ i : Nat, isC[j]? = some i ∧ ws[i]? = some q := by
    intro j q hq
    have h1 : (isC.map (fun i => ws[i]?))[j]? = some (some q) := by rw [hC, List.getElem?_map, hq]; rfl
    rw [List.getElem?_map] at h1
    cases hi : isC[j]? with
    | none => rw [hi] at h1; cases h1
    | some i => rw [hi] at h1; exact ⟨i, rfl, Option.some.inj h1⟩
  have memC : ∀ q ∈ wc, q ∈ ws := fun q hq => by
    obtain ⟨j, hj⟩ := List.getElem?_of_mem hq
    obtain ⟨i, -, hi⟩ := at' j q hj
    exact List.mem_of_getElem? hi
  have ltX : ∀ q ∈ X, q.1 < H.size := fun q hq => (vaP_mem.mp hPX q hq).lt
  have notC : ∀ q ∈ X, ¬ va_A wc H.size q.1 := by
    intro q hq h
    rcases h with ⟨k, e, h⟩ | h
    · exact hx _ (memC _ (List.mem_of_getElem? h)) q hq rfl
    · exact absurd (ltX q hq) (Nat.not_lt.mpr h)
  have adr : (updAll ws isC w1).map Prod.fst = ws.map Prod.fst := by
    apply updAll_fst
    intro j q hq i hi
    have hj : j < wc.length := by rw [← hlen1]; exact (List.getElem?_eq_some_iff.mp hq).1
    obtain ⟨i', h1, h2⟩ := at' j wc[j] (List.getElem?_eq_getElem hj)
    rw [hi] at h1
    cases h1
    rw [h2]
    have h3 : (w1.map Prod.fst)[j]? = (wc.map Prod.fst)[j]? := by rw [hf]
    rw [List.getElem?_map, List.getElem?_map, hq, List.getElem?_eq_getElem hj] at h3
    exact h3.symm
  have memA : ∀ q ∈ updAll ws isC w1, ∃ q' ∈ ws, q'.1 = q.1 := by
    intro q hq
    have h1 : q.1 ∈ (updAll ws isC w1).map Prod.fst := List.mem_map.mpr ⟨q, hq, rfl⟩
    rw [adr] at h1
    obtain ⟨q', h2, h3⟩ := List.mem_map.mp h1
    exact ⟨q', h2, h3⟩
  refine ⟨vaP_mem.mpr fun q hq => ?_, ⟨fun i j p q hi hj e => ?_, fun k q hq => ?_⟩, vaP_mem.mpr fun q hq => (vaP_mem.mp hPX q hq).kept (hk q.1 (ltX q hq) (notC q hq)), hDX, fun p hp q hq e => ?_⟩
  · rcases updAll_mem isC w1 ws q hq with h | ⟨k, h1, h2⟩
    · exact vaP_mem.mp hP1 q h
    · have hq2 := hP k q h2
      refine hq2.kept (hk q.1 hq2.lt ?_)
      rintro (⟨j, e, h⟩ | h)
      · obtain ⟨i, h3, h4⟩ := at' j _ h
        have := hD.1 k i q _ h2 h4 rfl
        subst this
        rw [List.take_of_length_le (by rw [hlen, hlen1]; exact Nat.le_refl _)] at h1
        exact h1 (List.mem_of_getElem? h3)
      · exact absurd hq2.lt (Nat.not_lt.mpr h)
  · have g : ∀ (k : Nat) (q : Nat × va_E), (updAll ws isC w1)[k]? = some q → ∃ q', ws[k]? = some q' ∧ q'.1 = q.1 := by
      intro k q hk
      have h1 : ((updAll ws isC w1).map Prod.fst)[k]? = some q.1 := by rw [List.getElem?_map, hk]; rfl
      rw [adr, List.getElem?_map] at h1
      cases hw : ws[k]? with
      | none => rw [hw] at h1; cases h1
      | some q' => rw [hw] at h1; exact ⟨q', rfl, Option.some.inj h1⟩
    obtain ⟨p', h1, h2⟩ := g i p hi
    obtain ⟨q', h3, h4⟩ := g j q hj
    exact hD.1 i j p' q' h1 h3 (h2.trans (e.trans h4.symm))
  · obtain ⟨q', h1, h2⟩ := memA q (List.mem_of_getElem? hq)
    obtain ⟨k', hk'⟩ := List.getElem?_of_mem h1
    rw [← h2]
    exact hD.2 k' q' hk'
  · obtain ⟨p', h1, h2⟩ := memA p hp
    exact hx p' h1 q hq (h2.trans e)
theorem kX.turn {D : va_G} {A : Nat → Prop} {a b c : va_W} {H : Heap} (h : kX D A a (b ++ c) H) : kX D A b (a ++ c) H := by
  unfold kX at h ⊢
  rw [vaP_app, vaD_app] at h ⊢
  simp only [List.mem_append] at h ⊢
  obtain ⟨h1, h2, ⟨h3, h4⟩, ⟨h5, h6, h7⟩, h8⟩ := h
  exact ⟨h3, h5, ⟨h1, h4⟩, ⟨h2, h6, fun p hp q hq => h8 p hp q (Or.inr hq)⟩, fun p hp q hq => hq.elim (fun hq e => h8 q hq p (Or.inl hp) e.symm) (h7 p hp q)⟩
theorem kJoinT {D : va_G} {A0 : Nat → Prop} {ws wc w1 w2 X : va_W} {H H1 : Heap} (hB0 : kX D A0 ws X H) (isC : List Nat) (hC : isC.map (fun i => ws[i]?) = wc.map some) (hf : w1.map Prod.fst = wc.map Prod.fst)
    (hk : ∀ q : Nat, q < H.size → ¬ va_A wc H.size q → H1[q]? = H[q]?) (hF : ∀ q, va_A wc H.size q → A0 q) (hz : H.size ≤ H1.size) (hP1 : va_P D kCl (w1 ++ w2) H1) (hD1 : va_D (va_A wc H.size) (w1 ++ w2)) : kX D A0 (updAll ws isC w1) (w2 ++ X) H1 := by
  obtain ⟨hPa, hPb⟩ := vaP_app.mp hP1
  obtain ⟨hDa, hDb, hDx⟩ := vaD_app.mp hD1
  have h := kJoinS hB0 isC hC hf hk hPa
  have hlen1 : w1.length = wc.length := by have := congrArg List.length hf; simpa using this
  -- the new cells lie behind the old heap
  have new : ∀ q ∈ w2, H.size ≤ q.1 := by
    intro q hq
    obtain ⟨k, hk2⟩ := List.getElem?_of_mem hq
    rcases hDb.2 k q hk2 with ⟨j, e, h1⟩ | h1
    · have hj : j < w1.length := by rw [hlen1]; exact (List.getElem?_eq_some_iff.mp h1).1
      have h3 : (w1.map Prod.fst)[j]? = (wc.map Prod.fst)[j]? := by rw [hf]
      rw [List.getElem?_map, List.getElem?_map, h1, List.getElem?_eq_getElem hj] at h3
      exact absurd (Option.some.inj h3) (hDx _ (List.getElem_mem hj) q hq)
    · exact h1
  obtain ⟨h1, h2, h3, h4, h5⟩ := h
  obtain ⟨hP, hD, hPX, hDX, hx⟩ := hB0
  have ltX : ∀ q ∈ X, q.1 < H.size := fun q hq => (vaP_mem.mp hPX q hq).lt
  have old : ∀ p ∈ updAll ws isC w1, p.1 < H.size := by
    intro p hp
    rcases updAll_mem isC w1 ws p hp with h | ⟨k, -, h⟩
    · obtain ⟨j, hj⟩ := List.getElem?_of_mem h
      have hj2 : j < wc.length := by rw [← hlen1]; exact (List.getElem?_eq_some_iff.mp hj).1
      have h6 : (w1.map Prod.fst)[j]? = (wc.map Prod.fst)[j]? := by rw [hf]
      rw [List.getElem?_map, List.getElem?_map, hj, List.getElem?_eq_getElem hj2] at h6
      have h7 : some wc[j] ∈ isC.map (fun i => ws[i]?) := by rw [hC]; exact List.mem_map.mpr ⟨_, List.getElem_mem hj2, rfl⟩
      obtain ⟨i, -, hi⟩ := List.mem_map.mp h7
      have h8 := (hP i _ hi).lt
      rw [Option.some.inj h6]; exact h8
    · exact (hP k p h).lt
  refine ⟨h1, h2, vaP_app.mpr ⟨hPb, h3⟩, vaD_app.mpr ⟨hDb.weaken (fun k q hq hA => hF _ hA), h4, fun p hp q hq e => ?_⟩, fun p hp q hq e => ?_⟩
  · have a1 := new p hp
    have a2 := ltX q hq
    omega
  · rcases List.mem_append.mp hq with hq | hq
    · have a1 := new q hq
      have a2 := old p hp
      omega
    · exact h5 p hp q hq e
theorem kSi0 {p : Program} {l : Launch} {e : Env} {R : Room} {s : State} {m : MethodId} {args a : Array Value} {below : List Frame} {meth : Method} {c : Code} {H H0 : Heap} {locs : List Loc} {cells slots : Nat} {Q : State → Prop} {D : va_G} {tys : List (ClassId × FieldType)} {P : Int32 → Prop} {w1 : va_W} {A0 : Nat → Prop} {ws wc X : va_W} {pc : Nat} {ls : Array Slot} {st0 rest : List Value}
    (hr : va_Run p l e R s m args below meth c H locs cells slots 0 0 (F0 m pc ls st0) rest (kQi0 D tys P w1 (va_A wc H.size) a) (va_A wc H.size)) (hB0 : kX D A0 ws X H) (hS : va_S A0 H0 H locs) (hA : ∀ q : Nat, H0.size ≤ q → A0 q) (isC : List Nat) (hC : isC.map (fun i => ws[i]?) = wc.map some)
    (hf : w1.map Prod.fst = wc.map Prod.fst)
    (kk : ∀ (r : Int32) (H1 : Heap) (locs1 : List Loc), P r → kX D A0 (updAll ws isC (w1)) X H1 → va_S A0 H0 H1 locs1 → W p l e R s m args below meth c H1 locs1 cells slots Q (F0 m (pc + 3) ls (.int r :: rest))) : W p l e R s m args below meth c H locs cells slots Q (F0 m pc ls st0) := by
  have hF := va_free hB0.2.1 hS hA isC hC
  refine va_calli hr hS (fun q _ h => hF q h) hF (fun r u t H1 locs1 ht hvm hw hB2 hz1 hk1 hS1 => ?_)
  obtain ⟨hP1, hK1, hD1⟩ := hB2
  rw [ht] at hP1
  exact kk r H1 locs1 hw (kJoinS hB0 isC hC (hf) hk1 hP1) hS1
theorem kSl0 {p : Program} {l : Launch} {e : Env} {R : Room} {s : State} {m : MethodId} {args a : Array Value} {below : List Frame} {meth : Method} {c : Code} {H H0 : Heap} {locs : List Loc} {cells slots : Nat} {Q : State → Prop} {D : va_G} {tys : List (ClassId × FieldType)} {P : Int64 → Prop} {w1 : va_W} {A0 : Nat → Prop} {ws wc X : va_W} {pc : Nat} {ls : Array Slot} {st0 rest : List Value}
    (hr : va_Run p l e R s m args below meth c H locs cells slots 0 0 (F0 m pc ls st0) rest (kQl0 D tys P w1 (va_A wc H.size) a) (va_A wc H.size)) (hB0 : kX D A0 ws X H) (hS : va_S A0 H0 H locs) (hA : ∀ q : Nat, H0.size ≤ q → A0 q) (isC : List Nat) (hC : isC.map (fun i => ws[i]?) = wc.map some)
    (hf : w1.map Prod.fst = wc.map Prod.fst)
    (kk : ∀ (r : Int64) (H1 : Heap) (locs1 : List Loc), P r → kX D A0 (updAll ws isC (w1)) X H1 → va_S A0 H0 H1 locs1 → W p l e R s m args below meth c H1 locs1 cells slots Q (F0 m (pc + 3) ls (.long r :: rest))) : W p l e R s m args below meth c H locs cells slots Q (F0 m pc ls st0) := by
  have hF := va_free hB0.2.1 hS hA isC hC
  refine va_calll hr hS (fun q _ h => hF q h) hF (fun r u t H1 locs1 ht hvm hw hB2 hz1 hk1 hS1 => ?_)
  obtain ⟨hP1, hK1, hD1⟩ := hB2
  rw [ht] at hP1
  exact kk r H1 locs1 hw (kJoinS hB0 isC hC (hf) hk1 hP1) hS1
theorem kSi1 {α0 : Type} {p : Program} {l : Launch} {e : Env} {R : Room} {s : State} {m : MethodId} {args a : Array Value} {below : List Frame} {meth : Method} {c : Code} {H H0 : Heap} {locs : List Loc} {cells slots : Nat} {Q : State → Prop} {D : va_G} {tys : List (ClassId × FieldType)} {P : Int32 → α0 → Prop} {w1 : α0 → va_W} {A0 : Nat → Prop} {ws wc X : va_W} {pc : Nat} {ls : Array Slot} {st0 rest : List Value}
    (hr : va_Run p l e R s m args below meth c H locs cells slots 0 0 (F0 m pc ls st0) rest (kQi1 D tys P w1 (va_A wc H.size) a) (va_A wc H.size)) (hB0 : kX D A0 ws X H) (hS : va_S A0 H0 H locs) (hA : ∀ q : Nat, H0.size ≤ q → A0 q) (isC : List Nat) (hC : isC.map (fun i => ws[i]?) = wc.map some)
    (hf : ∀ (x0 : α0), (w1 x0).map Prod.fst = wc.map Prod.fst)
    (kk : ∀ (r : Int32) (x0 : α0) (H1 : Heap) (locs1 : List Loc), P r x0 → kX D A0 (updAll ws isC (w1 x0)) X H1 → va_S A0 H0 H1 locs1 → W p l e R s m args below meth c H1 locs1 cells slots Q (F0 m (pc + 3) ls (.int r :: rest))) : W p l e R s m args below meth c H locs cells slots Q (F0 m pc ls st0) := by
  have hF := va_free hB0.2.1 hS hA isC hC
  refine va_calli hr hS (fun q _ h => hF q h) hF (fun r u t H1 locs1 ht hvm hw hB2 hz1 hk1 hS1 => ?_)
  obtain ⟨hP1, hK1, hD1⟩ := hB2
  rw [ht] at hP1
  exact kk r u H1 locs1 hw (kJoinS hB0 isC hC (hf u) hk1 hP1) hS1
theorem kSl1 {α0 : Type} {p : Program} {l : Launch} {e : Env} {R : Room} {s : State} {m : MethodId} {args a : Array Value} {below : List Frame} {meth : Method} {c : Code} {H H0 : Heap} {locs : List Loc} {cells slots : Nat} {Q : State → Prop} {D : va_G} {tys : List (ClassId × FieldType)} {P : Int64 → α0 → Prop} {w1 : α0 → va_W} {A0 : Nat → Prop} {ws wc X : va_W} {pc : Nat} {ls : Array Slot} {st0 rest : List Value}
    (hr : va_Run p l e R s m args below meth c H locs cells slots 0 0 (F0 m pc ls st0) rest (kQl1 D tys P w1 (va_A wc H.size) a) (va_A wc H.size)) (hB0 : kX D A0 ws X H) (hS : va_S A0 H0 H locs) (hA : ∀ q : Nat, H0.size ≤ q → A0 q) (isC : List Nat) (hC : isC.map (fun i => ws[i]?) = wc.map some)
    (hf : ∀ (x0 : α0), (w1 x0).map Prod.fst = wc.map Prod.fst)
    (kk : ∀ (r : Int64) (x0 : α0) (H1 : Heap) (locs1 : List Loc), P r x0 → kX D A0 (updAll ws isC (w1 x0)) X H1 → va_S A0 H0 H1 locs1 → W p l e R s m args below meth c H1 locs1 cells slots Q (F0 m (pc + 3) ls (.long r :: rest))) : W p l e R s m args below meth c H locs cells slots Q (F0 m pc ls st0) := by
  have hF := va_free hB0.2.1 hS hA isC hC
  refine va_calll hr hS (fun q _ h => hF q h) hF (fun r u t H1 locs1 ht hvm hw hB2 hz1 hk1 hS1 => ?_)
  obtain ⟨hP1, hK1, hD1⟩ := hB2
  rw [ht] at hP1
  exact kk r u H1 locs1 hw (kJoinS hB0 isC hC (hf u) hk1 hP1) hS1
theorem kSi2 {α0 α1 : Type} {p : Program} {l : Launch} {e : Env} {R : Room} {s : State} {m : MethodId} {args a : Array Value} {below : List Frame} {meth : Method} {c : Code} {H H0 : Heap} {locs : List Loc} {cells slots : Nat} {Q : State → Prop} {D : va_G} {tys : List (ClassId × FieldType)} {P : Int32 → α0 → α1 → Prop} {w1 : α0 → α1 → va_W} {A0 : Nat → Prop} {ws wc X : va_W} {pc : Nat} {ls : Array Slot} {st0 rest : List Value}
    (hr : va_Run p l e R s m args below meth c H locs cells slots 0 0 (F0 m pc ls st0) rest (kQi2 D tys P w1 (va_A wc H.size) a) (va_A wc H.size)) (hB0 : kX D A0 ws X H) (hS : va_S A0 H0 H locs) (hA : ∀ q : Nat, H0.size ≤ q → A0 q) (isC : List Nat) (hC : isC.map (fun i => ws[i]?) = wc.map some)
    (hf : ∀ (x0 : α0) (x1 : α1), (w1 x0 x1).map Prod.fst = wc.map Prod.fst)
    (kk : ∀ (r : Int32) (x0 : α0) (x1 : α1) (H1 : Heap) (locs1 : List Loc), P r x0 x1 → kX D A0 (updAll ws isC (w1 x0 x1)) X H1 → va_S A0 H0 H1 locs1 → W p l e R s m args below meth c H1 locs1 cells slots Q (F0 m (pc + 3) ls (.int r :: rest))) : W p l e R s m args below meth c H locs cells slots Q (F0 m pc ls st0) := by
  have hF := va_free hB0.2.1 hS hA isC hC
  refine va_calli hr hS (fun q _ h => hF q h) hF (fun r u t H1 locs1 ht hvm hw hB2 hz1 hk1 hS1 => ?_)
  obtain ⟨x0, x1⟩ := u
  obtain ⟨hP1, hK1, hD1⟩ := hB2
  rw [ht] at hP1
  exact kk r x0 x1 H1 locs1 hw (kJoinS hB0 isC hC (hf x0 x1) hk1 hP1) hS1
theorem kSl2 {α0 α1 : Type} {p : Program} {l : Launch} {e : Env} {R : Room} {s : State} {m : MethodId} {args a : Array Value} {below : List Frame} {meth : Method} {c : Code} {H H0 : Heap} {locs : List Loc} {cells slots : Nat} {Q : State → Prop} {D : va_G} {tys : List (ClassId × FieldType)} {P : Int64 → α0 → α1 → Prop} {w1 : α0 → α1 → va_W} {A0 : Nat → Prop} {ws wc X : va_W} {pc : Nat} {ls : Array Slot} {st0 rest : List Value}
    (hr : va_Run p l e R s m args below meth c H locs cells slots 0 0 (F0 m pc ls st0) rest (kQl2 D tys P w1 (va_A wc H.size) a) (va_A wc H.size)) (hB0 : kX D A0 ws X H) (hS : va_S A0 H0 H locs) (hA : ∀ q : Nat, H0.size ≤ q → A0 q) (isC : List Nat) (hC : isC.map (fun i => ws[i]?) = wc.map some)
    (hf : ∀ (x0 : α0) (x1 : α1), (w1 x0 x1).map Prod.fst = wc.map Prod.fst)
    (kk : ∀ (r : Int64) (x0 : α0) (x1 : α1) (H1 : Heap) (locs1 : List Loc), P r x0 x1 → kX D A0 (updAll ws isC (w1 x0 x1)) X H1 → va_S A0 H0 H1 locs1 → W p l e R s m args below meth c H1 locs1 cells slots Q (F0 m (pc + 3) ls (.long r :: rest))) : W p l e R s m args below meth c H locs cells slots Q (F0 m pc ls st0) := by
  have hF := va_free hB0.2.1 hS hA isC hC
  refine va_calll hr hS (fun q _ h => hF q h) hF (fun r u t H1 locs1 ht hvm hw hB2 hz1 hk1 hS1 => ?_)
  obtain ⟨x0, x1⟩ := u
  obtain ⟨hP1, hK1, hD1⟩ := hB2
  rw [ht] at hP1
  exact kk r x0 x1 H1 locs1 hw (kJoinS hB0 isC hC (hf x0 x1) hk1 hP1) hS1
theorem kSi3 {α0 α1 α2 : Type} {p : Program} {l : Launch} {e : Env} {R : Room} {s : State} {m : MethodId} {args a : Array Value} {below : List Frame} {meth : Method} {c : Code} {H H0 : Heap} {locs : List Loc} {cells slots : Nat} {Q : State → Prop} {D : va_G} {tys : List (ClassId × FieldType)} {P : Int32 → α0 → α1 → α2 → Prop} {w1 : α0 → α1 → α2 → va_W} {A0 : Nat → Prop} {ws wc X : va_W} {pc : Nat} {ls : Array Slot} {st0 rest : List Value}
    (hr : va_Run p l e R s m args below meth c H locs cells slots 0 0 (F0 m pc ls st0) rest (kQi3 D tys P w1 (va_A wc H.size) a) (va_A wc H.size)) (hB0 : kX D A0 ws X H) (hS : va_S A0 H0 H locs) (hA : ∀ q : Nat, H0.size ≤ q → A0 q) (isC : List Nat) (hC : isC.map (fun i => ws[i]?) = wc.map some)
    (hf : ∀ (x0 : α0) (x1 : α1) (x2 : α2), (w1 x0 x1 x2).map Prod.fst = wc.map Prod.fst)
    (kk : ∀ (r : Int32) (x0 : α0) (x1 : α1) (x2 : α2) (H1 : Heap) (locs1 : List Loc), P r x0 x1 x2 → kX D A0 (updAll ws isC (w1 x0 x1 x2)) X H1 → va_S A0 H0 H1 locs1 → W p l e R s m args below meth c H1 locs1 cells slots Q (F0 m (pc + 3) ls (.int r :: rest))) : W p l e R s m args below meth c H locs cells slots Q (F0 m pc ls st0) := by
  have hF := va_free hB0.2.1 hS hA isC hC
  refine va_calli hr hS (fun q _ h => hF q h) hF (fun r u t H1 locs1 ht hvm hw hB2 hz1 hk1 hS1 => ?_)
  obtain ⟨x0, x1, x2⟩ := u
  obtain ⟨hP1, hK1, hD1⟩ := hB2
  rw [ht] at hP1
  exact kk r x0 x1 x2 H1 locs1 hw (kJoinS hB0 isC hC (hf x0 x1 x2) hk1 hP1) hS1
theorem kSl3 {α0 α1 α2 : Type} {p : Program} {l : Launch} {e : Env} {R : Room} {s : State} {m : MethodId} {args a : Array Value} {below : List Frame} {meth : Method} {c : Code} {H H0 : Heap} {locs : List Loc} {cells slots : Nat} {Q : State → Prop} {D : va_G} {tys : List (ClassId × FieldType)} {P : Int64 → α0 → α1 → α2 → Prop} {w1 : α0 → α1 → α2 → va_W} {A0 : Nat → Prop} {ws wc X : va_W} {pc : Nat} {ls : Array Slot} {st0 rest : List Value}
    (hr : va_Run p l e R s m args below meth c H locs cells slots 0 0 (F0 m pc ls st0) rest (kQl3 D tys P w1 (va_A wc H.size) a) (va_A wc H.size)) (hB0 : kX D A0 ws X H) (hS : va_S A0 H0 H locs) (hA : ∀ q : Nat, H0.size ≤ q → A0 q) (isC : List Nat) (hC : isC.map (fun i => ws[i]?) = wc.map some)
    (hf : ∀ (x0 : α0) (x1 : α1) (x2 : α2), (w1 x0 x1 x2).map Prod.fst = wc.map Prod.fst)
    (kk : ∀ (r : Int64) (x0 : α0) (x1 : α1) (x2 : α2) (H1 : Heap) (locs1 : List Loc), P r x0 x1 x2 → kX D A0 (updAll ws isC (w1 x0 x1 x2)) X H1 → va_S A0 H0 H1 locs1 → W p l e R s m args below meth c H1 locs1 cells slots Q (F0 m (pc + 3) ls (.long r :: rest))) : W p l e R s m args below meth c H locs cells slots Q (F0 m pc ls st0) := by
  have hF := va_free hB0.2.1 hS hA isC hC
  refine va_calll hr hS (fun q _ h => hF q h) hF (fun r u t H1 locs1 ht hvm hw hB2 hz1 hk1 hS1 => ?_)
  obtain ⟨x0, x1, x2⟩ := u
  obtain ⟨hP1, hK1, hD1⟩ := hB2
  rw [ht] at hP1
  exact kk r x0 x1 x2 H1 locs1 hw (kJoinS hB0 isC hC (hf x0 x1 x2) hk1 hP1) hS1
theorem kSi4 {α0 α1 α2 α3 : Type} {p : Program} {l : Launch} {e : Env} {R : Room} {s : State} {m : MethodId} {args a : Array Value} {below : List Frame} {meth : Method} {c : Code} {H H0 : Heap} {locs : List Loc} {cells slots : Nat} {Q : State → Prop} {D : va_G} {tys : List (ClassId × FieldType)} {P : Int32 → α0 → α1 → α2 → α3 → Prop} {w1 : α0 → α1 → α2 → α3 → va_W} {A0 : Nat → Prop} {ws wc X : va_W} {pc : Nat} {ls : Array Slot} {st0 rest : List Value}
    (hr : va_Run p l e R s m args below meth c H locs cells slots 0 0 (F0 m pc ls st0) rest (kQi4 D tys P w1 (va_A wc H.size) a) (va_A wc H.size)) (hB0 : kX D A0 ws X H) (hS : va_S A0 H0 H locs) (hA : ∀ q : Nat, H0.size ≤ q → A0 q) (isC : List Nat) (hC : isC.map (fun i => ws[i]?) = wc.map some)
    (hf : ∀ (x0 : α0) (x1 : α1) (x2 : α2) (x3 : α3), (w1 x0 x1 x2 x3).map Prod.fst = wc.map Prod.fst)
    (kk : ∀ (r : Int32) (x0 : α0) (x1 : α1) (x2 : α2) (x3 : α3) (H1 : Heap) (locs1 : List Loc), P r x0 x1 x2 x3 → kX D A0 (updAll ws isC (w1 x0 x1 x2 x3)) X H1 → va_S A0 H0 H1 locs1 → W p l e R s m args below meth c H1 locs1 cells slots Q (F0 m (pc + 3) ls (.int r :: rest))) : W p l e R s m args below meth c H locs cells slots Q (F0 m pc ls st0) := by
  have hF := va_free hB0.2.1 hS hA isC hC
  refine va_calli hr hS (fun q _ h => hF q h) hF (fun r u t H1 locs1 ht hvm hw hB2 hz1 hk1 hS1 => ?_)
  obtain ⟨x0, x1, x2, x3⟩ := u
  obtain ⟨hP1, hK1, hD1⟩ := hB2
  rw [ht] at hP1
  exact kk r x0 x1 x2 x3 H1 locs1 hw (kJoinS hB0 isC hC (hf x0 x1 x2 x3) hk1 hP1) hS1
theorem kSl4 {α0 α1 α2 α3 : Type} {p : Program} {l : Launch} {e : Env} {R : Room} {s : State} {m : MethodId} {args a : Array Value} {below : List Frame} {meth : Method} {c : Code} {H H0 : Heap} {locs : List Loc} {cells slots : Nat} {Q : State → Prop} {D : va_G} {tys : List (ClassId × FieldType)} {P : Int64 → α0 → α1 → α2 → α3 → Prop} {w1 : α0 → α1 → α2 → α3 → va_W} {A0 : Nat → Prop} {ws wc X : va_W} {pc : Nat} {ls : Array Slot} {st0 rest : List Value}
    (hr : va_Run p l e R s m args below meth c H locs cells slots 0 0 (F0 m pc ls st0) rest (kQl4 D tys P w1 (va_A wc H.size) a) (va_A wc H.size)) (hB0 : kX D A0 ws X H) (hS : va_S A0 H0 H locs) (hA : ∀ q : Nat, H0.size ≤ q → A0 q) (isC : List Nat) (hC : isC.map (fun i => ws[i]?) = wc.map some)
    (hf : ∀ (x0 : α0) (x1 : α1) (x2 : α2) (x3 : α3), (w1 x0 x1 x2 x3).map Prod.fst = wc.map Prod.fst)
    (kk : ∀ (r : Int64) (x0 : α0) (x1 : α1) (x2 : α2) (x3 : α3) (H1 : Heap) (locs1 : List Loc), P r x0 x1 x2 x3 → kX D A0 (updAll ws isC (w1 x0 x1 x2 x3)) X H1 → va_S A0 H0 H1 locs1 → W p l e R s m args below meth c H1 locs1 cells slots Q (F0 m (pc + 3) ls (.long r :: rest))) : W p l e R s m args below meth c H locs cells slots Q (F0 m pc ls st0) := by
  have hF := va_free hB0.2.1 hS hA isC hC
  refine va_calll hr hS (fun q _ h => hF q h) hF (fun r u t H1 locs1 ht hvm hw hB2 hz1 hk1 hS1 => ?_)
  obtain ⟨x0, x1, x2, x3⟩ := u
  obtain ⟨hP1, hK1, hD1⟩ := hB2
  rw [ht] at hP1
  exact kk r x0 x1 x2 x3 H1 locs1 hw (kJoinS hB0 isC hC (hf x0 x1 x2 x3) hk1 hP1) hS1
theorem kSi5 {α0 α1 α2 α3 α4 : Type} {p : Program} {l : Launch} {e : Env} {R : Room} {s : State} {m : MethodId} {args a : Array Value} {below : List Frame} {meth : Method} {c : Code} {H H0 : Heap} {locs : List Loc} {cells slots : Nat} {Q : State → Prop} {D : va_G} {tys : List (ClassId × FieldType)} {P : Int32 → α0 → α1 → α2 → α3 → α4 → Prop} {w1 : α0 → α1 → α2 → α3 → α4 → va_W} {A0 : Nat → Prop} {ws wc X : va_W} {pc : Nat} {ls : Array Slot} {st0 rest : List Value}
    (hr : va_Run p l e R s m args below meth c H locs cells slots 0 0 (F0 m pc ls st0) rest (kQi5 D tys P w1 (va_A wc H.size) a) (va_A wc H.size)) (hB0 : kX D A0 ws X H) (hS : va_S A0 H0 H locs) (hA : ∀ q : Nat, H0.size ≤ q → A0 q) (isC : List Nat) (hC : isC.map (fun i => ws[i]?) = wc.map some)
    (hf : ∀ (x0 : α0) (x1 : α1) (x2 : α2) (x3 : α3) (x4 : α4), (w1 x0 x1 x2 x3 x4).map Prod.fst = wc.map Prod.fst)
    (kk : ∀ (r : Int32) (x0 : α0) (x1 : α1) (x2 : α2) (x3 : α3) (x4 : α4) (H1 : Heap) (locs1 : List Loc), P r x0 x1 x2 x3 x4 → kX D A0 (updAll ws isC (w1 x0 x1 x2 x3 x4)) X H1 → va_S A0 H0 H1 locs1 → W p l e R s m args below meth c H1 locs1 cells slots Q (F0 m (pc + 3) ls (.int r :: rest))) : W p l e R s m args below meth c H locs cells slots Q (F0 m pc ls st0) := by
  have hF := va_free hB0.2.1 hS hA isC hC
  refine va_calli hr hS (fun q _ h => hF q h) hF (fun r u t H1 locs1 ht hvm hw hB2 hz1 hk1 hS1 => ?_)
  obtain ⟨x0, x1, x2, x3, x4⟩ := u
  obtain ⟨hP1, hK1, hD1⟩ := hB2
  rw [ht] at hP1
  exact kk r x0 x1 x2 x3 x4 H1 locs1 hw (kJoinS hB0 isC hC (hf x0 x1 x2 x3 x4) hk1 hP1) hS1
theorem kSl5 {α0 α1 α2 α3 α4 : Type} {p : Program} {l : Launch} {e : Env} {R : Room} {s : State} {m : MethodId} {args a : Array Value} {below : List Frame} {meth : Method} {c : Code} {H H0 : Heap} {locs : List Loc} {cells slots : Nat} {Q : State → Prop} {D : va_G} {tys : List (ClassId × FieldType)} {P : Int64 → α0 → α1 → α2 → α3 → α4 → Prop} {w1 : α0 → α1 → α2 → α3 → α4 → va_W} {A0 : Nat → Prop} {ws wc X : va_W} {pc : Nat} {ls : Array Slot} {st0 rest : List Value}
    (hr : va_Run p l e R s m args below meth c H locs cells slots 0 0 (F0 m pc ls st0) rest (kQl5 D tys P w1 (va_A wc H.size) a) (va_A wc H.size)) (hB0 : kX D A0 ws X H) (hS : va_S A0 H0 H locs) (hA : ∀ q : Nat, H0.size ≤ q → A0 q) (isC : List Nat) (hC : isC.map (fun i => ws[i]?) = wc.map some)
    (hf : ∀ (x0 : α0) (x1 : α1) (x2 : α2) (x3 : α3) (x4 : α4), (w1 x0 x1 x2 x3 x4).map Prod.fst = wc.map Prod.fst)
    (kk : ∀ (r : Int64) (x0 : α0) (x1 : α1) (x2 : α2) (x3 : α3) (x4 : α4) (H1 : Heap) (locs1 : List Loc), P r x0 x1 x2 x3 x4 → kX D A0 (updAll ws isC (w1 x0 x1 x2 x3 x4)) X H1 → va_S A0 H0 H1 locs1 → W p l e R s m args below meth c H1 locs1 cells slots Q (F0 m (pc + 3) ls (.long r :: rest))) : W p l e R s m args below meth c H locs cells slots Q (F0 m pc ls st0) := by
  have hF := va_free hB0.2.1 hS hA isC hC
  refine va_calll hr hS (fun q _ h => hF q h) hF (fun r u t H1 locs1 ht hvm hw hB2 hz1 hk1 hS1 => ?_)
  obtain ⟨x0, x1, x2, x3, x4⟩ := u
  obtain ⟨hP1, hK1, hD1⟩ := hB2
  rw [ht] at hP1
  exact kk r x0 x1 x2 x3 x4 H1 locs1 hw (kJoinS hB0 isC hC (hf x0 x1 x2 x3 x4) hk1 hP1) hS1
theorem kSi6 {α0 α1 α2 α3 α4 α5 : Type} {p : Program} {l : Launch} {e : Env} {R : Room} {s : State} {m : MethodId} {args a : Array Value} {below : List Frame} {meth : Method} {c : Code} {H H0 : Heap} {locs : List Loc} {cells slots : Nat} {Q : State → Prop} {D : va_G} {tys : List (ClassId × FieldType)} {P : Int32 → α0 → α1 → α2 → α3 → α4 → α5 → Prop} {w1 : α0 → α1 → α2 → α3 → α4 → α5 → va_W} {A0 : Nat → Prop} {ws wc X : va_W} {pc : Nat} {ls : Array Slot} {st0 rest : List Value}
    (hr : va_Run p l e R s m args below meth c H locs cells slots 0 0 (F0 m pc ls st0) rest (kQi6 D tys P w1 (va_A wc H.size) a) (va_A wc H.size)) (hB0 : kX D A0 ws X H) (hS : va_S A0 H0 H locs) (hA : ∀ q : Nat, H0.size ≤ q → A0 q) (isC : List Nat) (hC : isC.map (fun i => ws[i]?) = wc.map some)
    (hf : ∀ (x0 : α0) (x1 : α1) (x2 : α2) (x3 : α3) (x4 : α4) (x5 : α5), (w1 x0 x1 x2 x3 x4 x5).map Prod.fst = wc.map Prod.fst)
    (kk : ∀ (r : Int32) (x0 : α0) (x1 : α1) (x2 : α2) (x3 : α3) (x4 : α4) (x5 : α5) (H1 : Heap) (locs1 : List Loc), P r x0 x1 x2 x3 x4 x5 → kX D A0 (updAll ws isC (w1 x0 x1 x2 x3 x4 x5)) X H1 → va_S A0 H0 H1 locs1 → W p l e R s m args below meth c H1 locs1 cells slots Q (F0 m (pc + 3) ls (.int r :: rest))) : W p l e R s m args below meth c H locs cells slots Q (F0 m pc ls st0) := by
  have hF := va_free hB0.2.1 hS hA isC hC
  refine va_calli hr hS (fun q _ h => hF q h) hF (fun r u t H1 locs1 ht hvm hw hB2 hz1 hk1 hS1 => ?_)
  obtain ⟨x0, x1, x2, x3, x4, x5⟩ := u
  obtain ⟨hP1, hK1, hD1⟩ := hB2
  rw [ht] at hP1
  exact kk r x0 x1 x2 x3 x4 x5 H1 locs1 hw (kJoinS hB0 isC hC (hf x0 x1 x2 x3 x4 x5) hk1 hP1) hS1
theorem kSl6 {α0 α1 α2 α3 α4 α5 : Type} {p : Program} {l : Launch} {e : Env} {R : Room} {s : State} {m : MethodId} {args a : Array Value} {below : List Frame} {meth : Method} {c : Code} {H H0 : Heap} {locs : List Loc} {cells slots : Nat} {Q : State → Prop} {D : va_G} {tys : List (ClassId × FieldType)} {P : Int64 → α0 → α1 → α2 → α3 → α4 → α5 → Prop} {w1 : α0 → α1 → α2 → α3 → α4 → α5 → va_W} {A0 : Nat → Prop} {ws wc X : va_W} {pc : Nat} {ls : Array Slot} {st0 rest : List Value}
    (hr : va_Run p l e R s m args below meth c H locs cells slots 0 0 (F0 m pc ls st0) rest (kQl6 D tys P w1 (va_A wc H.size) a) (va_A wc H.size)) (hB0 : kX D A0 ws X H) (hS : va_S A0 H0 H locs) (hA : ∀ q : Nat, H0.size ≤ q → A0 q) (isC : List Nat) (hC : isC.map (fun i => ws[i]?) = wc.map some)
    (hf : ∀ (x0 : α0) (x1 : α1) (x2 : α2) (x3 : α3) (x4 : α4) (x5 : α5), (w1 x0 x1 x2 x3 x4 x5).map Prod.fst = wc.map Prod.fst)
    (kk : ∀ (r : Int64) (x0 : α0) (x1 : α1) (x2 : α2) (x3 : α3) (x4 : α4) (x5 : α5) (H1 : Heap) (locs1 : List Loc), P r x0 x1 x2 x3 x4 x5 → kX D A0 (updAll ws isC (w1 x0 x1 x2 x3 x4 x5)) X H1 → va_S A0 H0 H1 locs1 → W p l e R s m args below meth c H1 locs1 cells slots Q (F0 m (pc + 3) ls (.long r :: rest))) : W p l e R s m args below meth c H locs cells slots Q (F0 m pc ls st0) := by
  have hF := va_free hB0.2.1 hS hA isC hC
  refine va_calll hr hS (fun q _ h => hF q h) hF (fun r u t H1 locs1 ht hvm hw hB2 hz1 hk1 hS1 => ?_)
  obtain ⟨x0, x1, x2, x3, x4, x5⟩ := u
  obtain ⟨hP1, hK1, hD1⟩ := hB2
  rw [ht] at hP1
  exact kk r x0 x1 x2 x3 x4 x5 H1 locs1 hw (kJoinS hB0 isC hC (hf x0 x1 x2 x3 x4 x5) hk1 hP1) hS1
theorem kSi7 {α0 α1 α2 α3 α4 α5 α6 : Type} {p : Program} {l : Launch} {e : Env} {R : Room} {s : State} {m : MethodId} {args a : Array Value} {below : List Frame} {meth : Method} {c : Code} {H H0 : Heap} {locs : List Loc} {cells slots : Nat} {Q : State → Prop} {D : va_G} {tys : List (ClassId × FieldType)} {P : Int32 → α0 → α1 → α2 → α3 → α4 → α5 → α6 → Prop} {w1 : α0 → α1 → α2 → α3 → α4 → α5 → α6 → va_W} {A0 : Nat → Prop} {ws wc X : va_W} {pc : Nat} {ls : Array Slot} {st0 rest : List Value}
    (hr : va_Run p l e R s m args below meth c H locs cells slots 0 0 (F0 m pc ls st0) rest (kQi7 D tys P w1 (va_A wc H.size) a) (va_A wc H.size)) (hB0 : kX D A0 ws X H) (hS : va_S A0 H0 H locs) (hA : ∀ q : Nat, H0.size ≤ q → A0 q) (isC : List Nat) (hC : isC.map (fun i => ws[i]?) = wc.map some)
    (hf : ∀ (x0 : α0) (x1 : α1) (x2 : α2) (x3 : α3) (x4 : α4) (x5 : α5) (x6 : α6), (w1 x0 x1 x2 x3 x4 x5 x6).map Prod.fst = wc.map Prod.fst)
    (kk : ∀ (r : Int32) (x0 : α0) (x1 : α1) (x2 : α2) (x3 : α3) (x4 : α4) (x5 : α5) (x6 : α6) (H1 : Heap) (locs1 : List Loc), P r x0 x1 x2 x3 x4 x5 x6 → kX D A0 (updAll ws isC (w1 x0 x1 x2 x3 x4 x5 x6)) X H1 → va_S A0 H0 H1 locs1 → W p l e R s m args below meth c H1 locs1 cells slots Q (F0 m (pc + 3) ls (.int r :: rest))) : W p l e R s m args below meth c H locs cells slots Q (F0 m pc ls st0) := by
  have hF := va_free hB0.2.1 hS hA isC hC
  refine va_calli hr hS (fun q _ h => hF q h) hF (fun r u t H1 locs1 ht hvm hw hB2 hz1 hk1 hS1 => ?_)
  obtain ⟨x0, x1, x2, x3, x4, x5, x6⟩ := u
  obtain ⟨hP1, hK1, hD1⟩ := hB2
  rw [ht] at hP1
  exact kk r x0 x1 x2 x3 x4 x5 x6 H1 locs1 hw (kJoinS hB0 isC hC (hf x0 x1 x2 x3 x4 x5 x6) hk1 hP1) hS1
theorem kSl7 {α0 α1 α2 α3 α4 α5 α6 : Type} {p : Program} {l : Launch} {e : Env} {R : Room} {s : State} {m : MethodId} {args a : Array Value} {below : List Frame} {meth : Method} {c : Code} {H H0 : Heap} {locs : List Loc} {cells slots : Nat} {Q : State → Prop} {D : va_G} {tys : List (ClassId × FieldType)} {P : Int64 → α0 → α1 → α2 → α3 → α4 → α5 → α6 → Prop} {w1 : α0 → α1 → α2 → α3 → α4 → α5 → α6 → va_W} {A0 : Nat → Prop} {ws wc X : va_W} {pc : Nat} {ls : Array Slot} {st0 rest : List Value}
    (hr : va_Run p l e R s m args below meth c H locs cells slots 0 0 (F0 m pc ls st0) rest (kQl7 D tys P w1 (va_A wc H.size) a) (va_A wc H.size)) (hB0 : kX D A0 ws X H) (hS : va_S A0 H0 H locs) (hA : ∀ q : Nat, H0.size ≤ q → A0 q) (isC : List Nat) (hC : isC.map (fun i => ws[i]?) = wc.map some)
    (hf : ∀ (x0 : α0) (x1 : α1) (x2 : α2) (x3 : α3) (x4 : α4) (x5 : α5) (x6 : α6), (w1 x0 x1 x2 x3 x4 x5 x6).map Prod.fst = wc.map Prod.fst)
    (kk : ∀ (r : Int64) (x0 : α0) (x1 : α1) (x2 : α2) (x3 : α3) (x4 : α4) (x5 : α5) (x6 : α6) (H1 : Heap) (locs1 : List Loc), P r x0 x1 x2 x3 x4 x5 x6 → kX D A0 (updAll ws isC (w1 x0 x1 x2 x3 x4 x5 x6)) X H1 → va_S A0 H0 H1 locs1 → W p l e R s m args below meth c H1 locs1 cells slots Q (F0 m (pc + 3) ls (.long r :: rest))) : W p l e R s m args below meth c H locs cells slots Q (F0 m pc ls st0) := by
  have hF := va_free hB0.2.1 hS hA isC hC
  refine va_calll hr hS (fun q _ h => hF q h) hF (fun r u t H1 locs1 ht hvm hw hB2 hz1 hk1 hS1 => ?_)
  obtain ⟨x0, x1, x2, x3, x4, x5, x6⟩ := u
  obtain ⟨hP1, hK1, hD1⟩ := hB2
  rw [ht] at hP1
  exact kk r x0 x1 x2 x3 x4 x5 x6 H1 locs1 hw (kJoinS hB0 isC hC (hf x0 x1 x2 x3 x4 x5 x6) hk1 hP1) hS1
theorem kSi8 {α0 α1 α2 α3 α4 α5 α6 α7 : Type} {p : Program} {l : Launch} {e : Env} {R : Room} {s : State} {m : MethodId} {args a : Array Value} {below : List Frame} {meth : Method} {c : Code} {H H0 : Heap} {locs : List Loc} {cells slots : Nat} {Q : State → Prop} {D : va_G} {tys : List (ClassId × FieldType)} {P : Int32 → α0 → α1 → α2 → α3 → α4 → α5 → α6 → α7 → Prop} {w1 : α0 → α1 → α2 → α3 → α4 → α5 → α6 → α7 → va_W} {A0 : Nat → Prop} {ws wc X : va_W} {pc : Nat} {ls : Array Slot} {st0 rest : List Value}
    (hr : va_Run p l e R s m args below meth c H locs cells slots 0 0 (F0 m pc ls st0) rest (kQi8 D tys P w1 (va_A wc H.size) a) (va_A wc H.size)) (hB0 : kX D A0 ws X H) (hS : va_S A0 H0 H locs) (hA : ∀ q : Nat, H0.size ≤ q → A0 q) (isC : List Nat) (hC : isC.map (fun i => ws[i]?) = wc.map some)
    (hf : ∀ (x0 : α0) (x1 : α1) (x2 : α2) (x3 : α3) (x4 : α4) (x5 : α5) (x6 : α6) (x7 : α7), (w1 x0 x1 x2 x3 x4 x5 x6 x7).map Prod.fst = wc.map Prod.fst)
    (kk : ∀ (r : Int32) (x0 : α0) (x1 : α1) (x2 : α2) (x3 : α3) (x4 : α4) (x5 : α5) (x6 : α6) (x7 : α7) (H1 : Heap) (locs1 : List Loc), P r x0 x1 x2 x3 x4 x5 x6 x7 → kX D A0 (updAll ws isC (w1 x0 x1 x2 x3 x4 x5 x6 x7)) X H1 → va_S A0 H0 H1 locs1 → W p l e R s m args below meth c H1 locs1 cells slots Q (F0 m (pc + 3) ls (.int r :: rest))) : W p l e R s m args below meth c H locs cells slots Q (F0 m pc ls st0) := by
  have hF := va_free hB0.2.1 hS hA isC hC
  refine va_calli hr hS (fun q _ h => hF q h) hF (fun r u t H1 locs1 ht hvm hw hB2 hz1 hk1 hS1 => ?_)
  obtain ⟨x0, x1, x2, x3, x4, x5, x6, x7⟩ := u
  obtain ⟨hP1, hK1, hD1⟩ := hB2
  rw [ht] at hP1
  exact kk r x0 x1 x2 x3 x4 x5 x6 x7 H1 locs1 hw (kJoinS hB0 isC hC (hf x0 x1 x2 x3 x4 x5 x6 x7) hk1 hP1) hS1
theorem kSl8 {α0 α1 α2 α3 α4 α5 α6 α7 : Type} {p : Program} {l : Launch} {e : Env} {R : Room} {s : State} {m : MethodId} {args a : Array Value} {below : List Frame} {meth : Method} {c : Code} {H H0 : Heap} {locs : List Loc} {cells slots : Nat} {Q : State → Prop} {D : va_G} {tys : List (ClassId × FieldType)} {P : Int64 → α0 → α1 → α2 → α3 → α4 → α5 → α6 → α7 → Prop} {w1 : α0 → α1 → α2 → α3 → α4 → α5 → α6 → α7 → va_W} {A0 : Nat → Prop} {ws wc X : va_W} {pc : Nat} {ls : Array Slot} {st0 rest : List Value}
    (hr : va_Run p l e R s m args below meth c H locs cells slots 0 0 (F0 m pc ls st0) rest (kQl8 D tys P w1 (va_A wc H.size) a) (va_A wc H.size)) (hB0 : kX D A0 ws X H) (hS : va_S A0 H0 H locs) (hA : ∀ q : Nat, H0.size ≤ q → A0 q) (isC : List Nat) (hC : isC.map (fun i => ws[i]?) = wc.map some)
    (hf : ∀ (x0 : α0) (x1 : α1) (x2 : α2) (x3 : α3) (x4 : α4) (x5 : α5) (x6 : α6) (x7 : α7), (w1 x0 x1 x2 x3 x4 x5 x6 x7).map Prod.fst = wc.map Prod.fst)
    (kk : ∀ (r : Int64) (x0 : α0) (x1 : α1) (x2 : α2) (x3 : α3) (x4 : α4) (x5 : α5) (x6 : α6) (x7 : α7) (H1 : Heap) (locs1 : List Loc), P r x0 x1 x2 x3 x4 x5 x6 x7 → kX D A0 (updAll ws isC (w1 x0 x1 x2 x3 x4 x5 x6 x7)) X H1 → va_S A0 H0 H1 locs1 → W p l e R s m args below meth c H1 locs1 cells slots Q (F0 m (pc + 3) ls (.long r :: rest))) : W p l e R s m args below meth c H locs cells slots Q (F0 m pc ls st0) := by
  have hF := va_free hB0.2.1 hS hA isC hC
  refine va_calll hr hS (fun q _ h => hF q h) hF (fun r u t H1 locs1 ht hvm hw hB2 hz1 hk1 hS1 => ?_)
  obtain ⟨x0, x1, x2, x3, x4, x5, x6, x7⟩ := u
  obtain ⟨hP1, hK1, hD1⟩ := hB2
  rw [ht] at hP1
  exact kk r x0 x1 x2 x3 x4 x5 x6 x7 H1 locs1 hw (kJoinS hB0 isC hC (hf x0 x1 x2 x3 x4 x5 x6 x7) hk1 hP1) hS1
theorem kSi9 {α0 α1 α2 α3 α4 α5 α6 α7 α8 : Type} {p : Program} {l : Launch} {e : Env} {R : Room} {s : State} {m : MethodId} {args a : Array Value} {below : List Frame} {meth : Method} {c : Code} {H H0 : Heap} {locs : List Loc} {cells slots : Nat} {Q : State → Prop} {D : va_G} {tys : List (ClassId × FieldType)} {P : Int32 → α0 → α1 → α2 → α3 → α4 → α5 → α6 → α7 → α8 → Prop} {w1 : α0 → α1 → α2 → α3 → α4 → α5 → α6 → α7 → α8 → va_W} {A0 : Nat → Prop} {ws wc X : va_W} {pc : Nat} {ls : Array Slot} {st0 rest : List Value}
    (hr : va_Run p l e R s m args below meth c H locs cells slots 0 0 (F0 m pc ls st0) rest (kQi9 D tys P w1 (va_A wc H.size) a) (va_A wc H.size)) (hB0 : kX D A0 ws X H) (hS : va_S A0 H0 H locs) (hA : ∀ q : Nat, H0.size ≤ q → A0 q) (isC : List Nat) (hC : isC.map (fun i => ws[i]?) = wc.map some)
    (hf : ∀ (x0 : α0) (x1 : α1) (x2 : α2) (x3 : α3) (x4 : α4) (x5 : α5) (x6 : α6) (x7 : α7) (x8 : α8), (w1 x0 x1 x2 x3 x4 x5 x6 x7 x8).map Prod.fst = wc.map Prod.fst)
    (kk : ∀ (r : Int32) (x0 : α0) (x1 : α1) (x2 : α2) (x3 : α3) (x4 : α4) (x5 : α5) (x6 : α6) (x7 : α7) (x8 : α8) (H1 : Heap) (locs1 : List Loc), P r x0 x1 x2 x3 x4 x5 x6 x7 x8 → kX D A0 (updAll ws isC (w1 x0 x1 x2 x3 x4 x5 x6 x7 x8)) X H1 → va_S A0 H0 H1 locs1 → W p l e R s m args below meth c H1 locs1 cells slots Q (F0 m (pc + 3) ls (.int r :: rest))) : W p l e R s m args below meth c H locs cells slots Q (F0 m pc ls st0) := by
  have hF := va_free hB0.2.1 hS hA isC hC
  refine va_calli hr hS (fun q _ h => hF q h) hF (fun r u t H1 locs1 ht hvm hw hB2 hz1 hk1 hS1 => ?_)
  obtain ⟨x0, x1, x2, x3, x4, x5, x6, x7, x8⟩ := u
  obtain ⟨hP1, hK1, hD1⟩ := hB2
  rw [ht] at hP1
  exact kk r x0 x1 x2 x3 x4 x5 x6 x7 x8 H1 locs1 hw (kJoinS hB0 isC hC (hf x0 x1 x2 x3 x4 x5 x6 x7 x8) hk1 hP1) hS1
theorem kSl9 {α0 α1 α2 α3 α4 α5 α6 α7 α8 : Type} {p : Program} {l : Launch} {e : Env} {R : Room} {s : State} {m : MethodId} {args a : Array Value} {below : List Frame} {meth : Method} {c : Code} {H H0 : Heap} {locs : List Loc} {cells slots : Nat} {Q : State → Prop} {D : va_G} {tys : List (ClassId × FieldType)} {P : Int64 → α0 → α1 → α2 → α3 → α4 → α5 → α6 → α7 → α8 → Prop} {w1 : α0 → α1 → α2 → α3 → α4 → α5 → α6 → α7 → α8 → va_W} {A0 : Nat → Prop} {ws wc X : va_W} {pc : Nat} {ls : Array Slot} {st0 rest : List Value}
    (hr : va_Run p l e R s m args below meth c H locs cells slots 0 0 (F0 m pc ls st0) rest (kQl9 D tys P w1 (va_A wc H.size) a) (va_A wc H.size)) (hB0 : kX D A0 ws X H) (hS : va_S A0 H0 H locs) (hA : ∀ q : Nat, H0.size ≤ q → A0 q) (isC : List Nat) (hC : isC.map (fun i => ws[i]?) = wc.map some)
    (hf : ∀ (x0 : α0) (x1 : α1) (x2 : α2) (x3 : α3) (x4 : α4) (x5 : α5) (x6 : α6) (x7 : α7) (x8 : α8), (w1 x0 x1 x2 x3 x4 x5 x6 x7 x8).map Prod.fst = wc.map Prod.fst)
    (kk : ∀ (r : Int64) (x0 : α0) (x1 : α1) (x2 : α2) (x3 : α3) (x4 : α4) (x5 : α5) (x6 : α6) (x7 : α7) (x8 : α8) (H1 : Heap) (locs1 : List Loc), P r x0 x1 x2 x3 x4 x5 x6 x7 x8 → kX D A0 (updAll ws isC (w1 x0 x1 x2 x3 x4 x5 x6 x7 x8)) X H1 → va_S A0 H0 H1 locs1 → W p l e R s m args below meth c H1 locs1 cells slots Q (F0 m (pc + 3) ls (.long r :: rest))) : W p l e R s m args below meth c H locs cells slots Q (F0 m pc ls st0) := by
  have hF := va_free hB0.2.1 hS hA isC hC
  refine va_calll hr hS (fun q _ h => hF q h) hF (fun r u t H1 locs1 ht hvm hw hB2 hz1 hk1 hS1 => ?_)
  obtain ⟨x0, x1, x2, x3, x4, x5, x6, x7, x8⟩ := u
  obtain ⟨hP1, hK1, hD1⟩ := hB2
  rw [ht] at hP1
  exact kk r x0 x1 x2 x3 x4 x5 x6 x7 x8 H1 locs1 hw (kJoinS hB0 isC hC (hf x0 x1 x2 x3 x4 x5 x6 x7 x8) hk1 hP1) hS1
theorem kSi10 {α0 α1 α2 α3 α4 α5 α6 α7 α8 α9 : Type} {p : Program} {l : Launch} {e : Env} {R : Room} {s : State} {m : MethodId} {args a : Array Value} {below : List Frame} {meth : Method} {c : Code} {H H0 : Heap} {locs : List Loc} {cells slots : Nat} {Q : State → Prop} {D : va_G} {tys : List (ClassId × FieldType)} {P : Int32 → α0 → α1 → α2 → α3 → α4 → α5 → α6 → α7 → α8 → α9 → Prop} {w1 : α0 → α1 → α2 → α3 → α4 → α5 → α6 → α7 → α8 → α9 → va_W} {A0 : Nat → Prop} {ws wc X : va_W} {pc : Nat} {ls : Array Slot} {st0 rest : List Value}
    (hr : va_Run p l e R s m args below meth c H locs cells slots 0 0 (F0 m pc ls st0) rest (kQi10 D tys P w1 (va_A wc H.size) a) (va_A wc H.size)) (hB0 : kX D A0 ws X H) (hS : va_S A0 H0 H locs) (hA : ∀ q : Nat, H0.size ≤ q → A0 q) (isC : List Nat) (hC : isC.map (fun i => ws[i]?) = wc.map some)
    (hf : ∀ (x0 : α0) (x1 : α1) (x2 : α2) (x3 : α3) (x4 : α4) (x5 : α5) (x6 : α6) (x7 : α7) (x8 : α8) (x9 : α9), (w1 x0 x1 x2 x3 x4 x5 x6 x7 x8 x9).map Prod.fst = wc.map Prod.fst)
    (kk : ∀ (r : Int32) (x0 : α0) (x1 : α1) (x2 : α2) (x3 : α3) (x4 : α4) (x5 : α5) (x6 : α6) (x7 : α7) (x8 : α8) (x9 : α9) (H1 : Heap) (locs1 : List Loc), P r x0 x1 x2 x3 x4 x5 x6 x7 x8 x9 → kX D A0 (updAll ws isC (w1 x0 x1 x2 x3 x4 x5 x6 x7 x8 x9)) X H1 → va_S A0 H0 H1 locs1 → W p l e R s m args below meth c H1 locs1 cells slots Q (F0 m (pc + 3) ls (.int r :: rest))) : W p l e R s m args below meth c H locs cells slots Q (F0 m pc ls st0) := by
  have hF := va_free hB0.2.1 hS hA isC hC
  refine va_calli hr hS (fun q _ h => hF q h) hF (fun r u t H1 locs1 ht hvm hw hB2 hz1 hk1 hS1 => ?_)
  obtain ⟨x0, x1, x2, x3, x4, x5, x6, x7, x8, x9⟩ := u
  obtain ⟨hP1, hK1, hD1⟩ := hB2
  rw [ht] at hP1
  exact kk r x0 x1 x2 x3 x4 x5 x6 x7 x8 x9 H1 locs1 hw (kJoinS hB0 isC hC (hf x0 x1 x2 x3 x4 x5 x6 x7 x8 x9) hk1 hP1) hS1
theorem kSl10 {α0 α1 α2 α3 α4 α5 α6 α7 α8 α9 : Type} {p : Program} {l : Launch} {e : Env} {R : Room} {s : State} {m : MethodId} {args a : Array Value} {below : List Frame} {meth : Method} {c : Code} {H H0 : Heap} {locs : List Loc} {cells slots : Nat} {Q : State → Prop} {D : va_G} {tys : List (ClassId × FieldType)} {P : Int64 → α0 → α1 → α2 → α3 → α4 → α5 → α6 → α7 → α8 → α9 → Prop} {w1 : α0 → α1 → α2 → α3 → α4 → α5 → α6 → α7 → α8 → α9 → va_W} {A0 : Nat → Prop} {ws wc X : va_W} {pc : Nat} {ls : Array Slot} {st0 rest : List Value}
    (hr : va_Run p l e R s m args below meth c H locs cells slots 0 0 (F0 m pc ls st0) rest (kQl10 D tys P w1 (va_A wc H.size) a) (va_A wc H.size)) (hB0 : kX D A0 ws X H) (hS : va_S A0 H0 H locs) (hA : ∀ q : Nat, H0.size ≤ q → A0 q) (isC : List Nat) (hC : isC.map (fun i => ws[i]?) = wc.map some)
    (hf : ∀ (x0 : α0) (x1 : α1) (x2 : α2) (x3 : α3) (x4 : α4) (x5 : α5) (x6 : α6) (x7 : α7) (x8 : α8) (x9 : α9), (w1 x0 x1 x2 x3 x4 x5 x6 x7 x8 x9).map Prod.fst = wc.map Prod.fst)
    (kk : ∀ (r : Int64) (x0 : α0) (x1 : α1) (x2 : α2) (x3 : α3) (x4 : α4) (x5 : α5) (x6 : α6) (x7 : α7) (x8 : α8) (x9 : α9) (H1 : Heap) (locs1 : List Loc), P r x0 x1 x2 x3 x4 x5 x6 x7 x8 x9 → kX D A0 (updAll ws isC (w1 x0 x1 x2 x3 x4 x5 x6 x7 x8 x9)) X H1 → va_S A0 H0 H1 locs1 → W p l e R s m args below meth c H1 locs1 cells slots Q (F0 m (pc + 3) ls (.long r :: rest))) : W p l e R s m args below meth c H locs cells slots Q (F0 m pc ls st0) := by
  have hF := va_free hB0.2.1 hS hA isC hC
  refine va_calll hr hS (fun q _ h => hF q h) hF (fun r u t H1 locs1 ht hvm hw hB2 hz1 hk1 hS1 => ?_)
  obtain ⟨x0, x1, x2, x3, x4, x5, x6, x7, x8, x9⟩ := u
  obtain ⟨hP1, hK1, hD1⟩ := hB2
  rw [ht] at hP1
  exact kk r x0 x1 x2 x3 x4 x5 x6 x7 x8 x9 H1 locs1 hw (kJoinS hB0 isC hC (hf x0 x1 x2 x3 x4 x5 x6 x7 x8 x9) hk1 hP1) hS1
theorem kSi11 {α0 α1 α2 α3 α4 α5 α6 α7 α8 α9 α10 : Type} {p : Program} {l : Launch} {e : Env} {R : Room} {s : State} {m : MethodId} {args a : Array Value} {below : List Frame} {meth : Method} {c : Code} {H H0 : Heap} {locs : List Loc} {cells slots : Nat} {Q : State → Prop} {D : va_G} {tys : List (ClassId × FieldType)} {P : Int32 → α0 → α1 → α2 → α3 → α4 → α5 → α6 → α7 → α8 → α9 → α10 → Prop} {w1 : α0 → α1 → α2 → α3 → α4 → α5 → α6 → α7 → α8 → α9 → α10 → va_W} {A0 : Nat → Prop} {ws wc X : va_W} {pc : Nat} {ls : Array Slot} {st0 rest : List Value}
    (hr : va_Run p l e R s m args below meth c H locs cells slots 0 0 (F0 m pc ls st0) rest (kQi11 D tys P w1 (va_A wc H.size) a) (va_A wc H.size)) (hB0 : kX D A0 ws X H) (hS : va_S A0 H0 H locs) (hA : ∀ q : Nat, H0.size ≤ q → A0 q) (isC : List Nat) (hC : isC.map (fun i => ws[i]?) = wc.map some)
    (hf : ∀ (x0 : α0) (x1 : α1) (x2 : α2) (x3 : α3) (x4 : α4) (x5 : α5) (x6 : α6) (x7 : α7) (x8 : α8) (x9 : α9) (x10 : α10), (w1 x0 x1 x2 x3 x4 x5 x6 x7 x8 x9 x10).map Prod.fst = wc.map Prod.fst)
    (kk : ∀ (r : Int32) (x0 : α0) (x1 : α1) (x2 : α2) (x3 : α3) (x4 : α4) (x5 : α5) (x6 : α6) (x7 : α7) (x8 : α8) (x9 : α9) (x10 : α10) (H1 : Heap) (locs1 : List Loc), P r x0 x1 x2 x3 x4 x5 x6 x7 x8 x9 x10 → kX D A0 (updAll ws isC (w1 x0 x1 x2 x3 x4 x5 x6 x7 x8 x9 x10)) X H1 → va_S A0 H0 H1 locs1 → W p l e R s m args below meth c H1 locs1 cells slots Q (F0 m (pc + 3) ls (.int r :: rest))) : W p l e R s m args below meth c H locs cells slots Q (F0 m pc ls st0) := by
  have hF := va_free hB0.2.1 hS hA isC hC
  refine va_calli hr hS (fun q _ h => hF q h) hF (fun r u t H1 locs1 ht hvm hw hB2 hz1 hk1 hS1 => ?_)
  obtain ⟨x0, x1, x2, x3, x4, x5, x6, x7, x8, x9, x10⟩ := u
  obtain ⟨hP1, hK1, hD1⟩ := hB2
  rw [ht] at hP1
  exact kk r x0 x1 x2 x3 x4 x5 x6 x7 x8 x9 x10 H1 locs1 hw (kJoinS hB0 isC hC (hf x0 x1 x2 x3 x4 x5 x6 x7 x8 x9 x10) hk1 hP1) hS1
theorem kSl11 {α0 α1 α2 α3 α4 α5 α6 α7 α8 α9 α10 : Type} {p : Program} {l : Launch} {e : Env} {R : Room} {s : State} {m : MethodId} {args a : Array Value} {below : List Frame} {meth : Method} {c : Code} {H H0 : Heap} {locs : List Loc} {cells slots : Nat} {Q : State → Prop} {D : va_G} {tys : List (ClassId × FieldType)} {P : Int64 → α0 → α1 → α2 → α3 → α4 → α5 → α6 → α7 → α8 → α9 → α10 → Prop} {w1 : α0 → α1 → α2 → α3 → α4 → α5 → α6 → α7 → α8 → α9 → α10 → va_W} {A0 : Nat → Prop} {ws wc X : va_W} {pc : Nat} {ls : Array Slot} {st0 rest : List Value}
    (hr : va_Run p l e R s m args below meth c H locs cells slots 0 0 (F0 m pc ls st0) rest (kQl11 D tys P w1 (va_A wc H.size) a) (va_A wc H.size)) (hB0 : kX D A0 ws X H) (hS : va_S A0 H0 H locs) (hA : ∀ q : Nat, H0.size ≤ q → A0 q) (isC : List Nat) (hC : isC.map (fun i => ws[i]?) = wc.map some)
    (hf : ∀ (x0 : α0) (x1 : α1) (x2 : α2) (x3 : α3) (x4 : α4) (x5 : α5) (x6 : α6) (x7 : α7) (x8 : α8) (x9 : α9) (x10 : α10), (w1 x0 x1 x2 x3 x4 x5 x6 x7 x8 x9 x10).map Prod.fst = wc.map Prod.fst)
    (kk : ∀ (r : Int64) (x0 : α0) (x1 : α1) (x2 : α2) (x3 : α3) (x4 : α4) (x5 : α5) (x6 : α6) (x7 : α7) (x8 : α8) (x9 : α9) (x10 : α10) (H1 : Heap) (locs1 : List Loc), P r x0 x1 x2 x3 x4 x5 x6 x7 x8 x9 x10 → kX D A0 (updAll ws isC (w1 x0 x1 x2 x3 x4 x5 x6 x7 x8 x9 x10)) X H1 → va_S A0 H0 H1 locs1 → W p l e R s m args below meth c H1 locs1 cells slots Q (F0 m (pc + 3) ls (.long r :: rest))) : W p l e R s m args below meth c H locs cells slots Q (F0 m pc ls st0) := by
  have hF := va_free hB0.2.1 hS hA isC hC
  refine va_calll hr hS (fun q _ h => hF q h) hF (fun r u t H1 locs1 ht hvm hw hB2 hz1 hk1 hS1 => ?_)
  obtain ⟨x0, x1, x2, x3, x4, x5, x6, x7, x8, x9, x10⟩ := u
  obtain ⟨hP1, hK1, hD1⟩ := hB2
  rw [ht] at hP1
  exact kk r x0 x1 x2 x3 x4 x5 x6 x7 x8 x9 x10 H1 locs1 hw (kJoinS hB0 isC hC (hf x0 x1 x2 x3 x4 x5 x6 x7 x8 x9 x10) hk1 hP1) hS1
theorem kSi12 {α0 α1 α2 α3 α4 α5 α6 α7 α8 α9 α10 α11 : Type} {p : Program} {l : Launch} {e : Env} {R : Room} {s : State} {m : MethodId} {args a : Array Value} {below : List Frame} {meth : Method} {c : Code} {H H0 : Heap} {locs : List Loc} {cells slots : Nat} {Q : State → Prop} {D : va_G} {tys : List (ClassId × FieldType)} {P : Int32 → α0 → α1 → α2 → α3 → α4 → α5 → α6 → α7 → α8 → α9 → α10 → α11 → Prop} {w1 : α0 → α1 → α2 → α3 → α4 → α5 → α6 → α7 → α8 → α9 → α10 → α11 → va_W} {A0 : Nat → Prop} {ws wc X : va_W} {pc : Nat} {ls : Array Slot} {st0 rest : List Value}
    (hr : va_Run p l e R s m args below meth c H locs cells slots 0 0 (F0 m pc ls st0) rest (kQi12 D tys P w1 (va_A wc H.size) a) (va_A wc H.size)) (hB0 : kX D A0 ws X H) (hS : va_S A0 H0 H locs) (hA : ∀ q : Nat, H0.size ≤ q → A0 q) (isC : List Nat) (hC : isC.map (fun i => ws[i]?) = wc.map some)
    (hf : ∀ (x0 : α0) (x1 : α1) (x2 : α2) (x3 : α3) (x4 : α4) (x5 : α5) (x6 : α6) (x7 : α7) (x8 : α8) (x9 : α9) (x10 : α10) (x11 : α11), (w1 x0 x1 x2 x3 x4 x5 x6 x7 x8 x9 x10 x11).map Prod.fst = wc.map Prod.fst)
    (kk : ∀ (r : Int32) (x0 : α0) (x1 : α1) (x2 : α2) (x3 : α3) (x4 : α4) (x5 : α5) (x6 : α6) (x7 : α7) (x8 : α8) (x9 : α9) (x10 : α10) (x11 : α11) (H1 : Heap) (locs1 : List Loc), P r x0 x1 x2 x3 x4 x5 x6 x7 x8 x9 x10 x11 → kX D A0 (updAll ws isC (w1 x0 x1 x2 x3 x4 x5 x6 x7 x8 x9 x10 x11)) X H1 → va_S A0 H0 H1 locs1 → W p l e R s m args below meth c H1 locs1 cells slots Q (F0 m (pc + 3) ls (.int r :: rest))) : W p l e R s m args below meth c H locs cells slots Q (F0 m pc ls st0) := by
  have hF := va_free hB0.2.1 hS hA isC hC
  refine va_calli hr hS (fun q _ h => hF q h) hF (fun r u t H1 locs1 ht hvm hw hB2 hz1 hk1 hS1 => ?_)
  obtain ⟨x0, x1, x2, x3, x4, x5, x6, x7, x8, x9, x10, x11⟩ := u
  obtain ⟨hP1, hK1, hD1⟩ := hB2
  rw [ht] at hP1
  exact kk r x0 x1 x2 x3 x4 x5 x6 x7 x8 x9 x10 x11 H1 locs1 hw (kJoinS hB0 isC hC (hf x0 x1 x2 x3 x4 x5 x6 x7 x8 x9 x10 x11) hk1 hP1) hS1
theorem kSl12 {α0 α1 α2 α3 α4 α5 α6 α7 α8 α9 α10 α11 : Type} {p : Program} {l : Launch} {e : Env} {R : Room} {s : State} {m : MethodId} {args a : Array Value} {below : List Frame} {meth : Method} {c : Code} {H H0 : Heap} {locs : List Loc} {cells slots : Nat} {Q : State → Prop} {D : va_G} {tys : List (ClassId × FieldType)} {P : Int64 → α0 → α1 → α2 → α3 → α4 → α5 → α6 → α7 → α8 → α9 → α10 → α11 → Prop} {w1 : α0 → α1 → α2 → α3 → α4 → α5 → α6 → α7 → α8 → α9 → α10 → α11 → va_W} {A0 : Nat → Prop} {ws wc X : va_W} {pc : Nat} {ls : Array Slot} {st0 rest : List Value}
    (hr : va_Run p l e R s m args below meth c H locs cells slots 0 0 (F0 m pc ls st0) rest (kQl12 D tys P w1 (va_A wc H.size) a) (va_A wc H.size)) (hB0 : kX D A0 ws X H) (hS : va_S A0 H0 H locs) (hA : ∀ q : Nat, H0.size ≤ q → A0 q) (isC : List Nat) (hC : isC.map (fun i => ws[i]?) = wc.map some)
    (hf : ∀ (x0 : α0) (x1 : α1) (x2 : α2) (x3 : α3) (x4 : α4) (x5 : α5) (x6 : α6) (x7 : α7) (x8 : α8) (x9 : α9) (x10 : α10) (x11 : α11), (w1 x0 x1 x2 x3 x4 x5 x6 x7 x8 x9 x10 x11).map Prod.fst = wc.map Prod.fst)
    (kk : ∀ (r : Int64) (x0 : α0) (x1 : α1) (x2 : α2) (x3 : α3) (x4 : α4) (x5 : α5) (x6 : α6) (x7 : α7) (x8 : α8) (x9 : α9) (x10 : α10) (x11 : α11) (H1 : Heap) (locs1 : List Loc), P r x0 x1 x2 x3 x4 x5 x6 x7 x8 x9 x10 x11 → kX D A0 (updAll ws isC (w1 x0 x1 x2 x3 x4 x5 x6 x7 x8 x9 x10 x11)) X H1 → va_S A0 H0 H1 locs1 → W p l e R s m args below meth c H1 locs1 cells slots Q (F0 m (pc + 3) ls (.long r :: rest))) : W p l e R s m args below meth c H locs cells slots Q (F0 m pc ls st0) := by
  have hF := va_free hB0.2.1 hS hA isC hC
  refine va_calll hr hS (fun q _ h => hF q h) hF (fun r u t H1 locs1 ht hvm hw hB2 hz1 hk1 hS1 => ?_)
  obtain ⟨x0, x1, x2, x3, x4, x5, x6, x7, x8, x9, x10, x11⟩ := u
  obtain ⟨hP1, hK1, hD1⟩ := hB2
  rw [ht] at hP1
  exact kk r x0 x1 x2 x3 x4 x5 x6 x7 x8 x9 x10 x11 H1 locs1 hw (kJoinS hB0 isC hC (hf x0 x1 x2 x3 x4 x5 x6 x7 x8 x9 x10 x11) hk1 hP1) hS1
theorem kSi13 {α0 α1 α2 α3 α4 α5 α6 α7 α8 α9 α10 α11 α12 : Type} {p : Program} {l : Launch} {e : Env} {R : Room} {s : State} {m : MethodId} {args a : Array Value} {below : List Frame} {meth : Method} {c : Code} {H H0 : Heap} {locs : List Loc} {cells slots : Nat} {Q : State → Prop} {D : va_G} {tys : List (ClassId × FieldType)} {P : Int32 → α0 → α1 → α2 → α3 → α4 → α5 → α6 → α7 → α8 → α9 → α10 → α11 → α12 → Prop} {w1 : α0 → α1 → α2 → α3 → α4 → α5 → α6 → α7 → α8 → α9 → α10 → α11 → α12 → va_W} {A0 : Nat → Prop} {ws wc X : va_W} {pc : Nat} {ls : Array Slot} {st0 rest : List Value}
    (hr : va_Run p l e R s m args below meth c H locs cells slots 0 0 (F0 m pc ls st0) rest (kQi13 D tys P w1 (va_A wc H.size) a) (va_A wc H.size)) (hB0 : kX D A0 ws X H) (hS : va_S A0 H0 H locs) (hA : ∀ q : Nat, H0.size ≤ q → A0 q) (isC : List Nat) (hC : isC.map (fun i => ws[i]?) = wc.map some)
    (hf : ∀ (x0 : α0) (x1 : α1) (x2 : α2) (x3 : α3) (x4 : α4) (x5 : α5) (x6 : α6) (x7 : α7) (x8 : α8) (x9 : α9) (x10 : α10) (x11 : α11) (x12 : α12), (w1 x0 x1 x2 x3 x4 x5 x6 x7 x8 x9 x10 x11 x12).map Prod.fst = wc.map Prod.fst)
    (kk : ∀ (r : Int32) (x0 : α0) (x1 : α1) (x2 : α2) (x3 : α3) (x4 : α4) (x5 : α5) (x6 : α6) (x7 : α7) (x8 : α8) (x9 : α9) (x10 : α10) (x11 : α11) (x12 : α12) (H1 : Heap) (locs1 : List Loc), P r x0 x1 x2 x3 x4 x5 x6 x7 x8 x9 x10 x11 x12 → kX D A0 (updAll ws isC (w1 x0 x1 x2 x3 x4 x5 x6 x7 x8 x9 x10 x11 x12)) X H1 → va_S A0 H0 H1 locs1 → W p l e R s m args below meth c H1 locs1 cells slots Q (F0 m (pc + 3) ls (.int r :: rest))) : W p l e R s m args below meth c H locs cells slots Q (F0 m pc ls st0) := by
  have hF := va_free hB0.2.1 hS hA isC hC
  refine va_calli hr hS (fun q _ h => hF q h) hF (fun r u t H1 locs1 ht hvm hw hB2 hz1 hk1 hS1 => ?_)
  obtain ⟨x0, x1, x2, x3, x4, x5, x6, x7, x8, x9, x10, x11, x12⟩ := u
  obtain ⟨hP1, hK1, hD1⟩ := hB2
  rw [ht] at hP1
  exact kk r x0 x1 x2 x3 x4 x5 x6 x7 x8 x9 x10 x11 x12 H1 locs1 hw (kJoinS hB0 isC hC (hf x0 x1 x2 x3 x4 x5 x6 x7 x8 x9 x10 x11 x12) hk1 hP1) hS1
theorem kSl13 {α0 α1 α2 α3 α4 α5 α6 α7 α8 α9 α10 α11 α12 : Type} {p : Program} {l : Launch} {e : Env} {R : Room} {s : State} {m : MethodId} {args a : Array Value} {below : List Frame} {meth : Method} {c : Code} {H H0 : Heap} {locs : List Loc} {cells slots : Nat} {Q : State → Prop} {D : va_G} {tys : List (ClassId × FieldType)} {P : Int64 → α0 → α1 → α2 → α3 → α4 → α5 → α6 → α7 → α8 → α9 → α10 → α11 → α12 → Prop} {w1 : α0 → α1 → α2 → α3 → α4 → α5 → α6 → α7 → α8 → α9 → α10 → α11 → α12 → va_W} {A0 : Nat → Prop} {ws wc X : va_W} {pc : Nat} {ls : Array Slot} {st0 rest : List Value}
    (hr : va_Run p l e R s m args below meth c H locs cells slots 0 0 (F0 m pc ls st0) rest (kQl13 D tys P w1 (va_A wc H.size) a) (va_A wc H.size)) (hB0 : kX D A0 ws X H) (hS : va_S A0 H0 H locs) (hA : ∀ q : Nat, H0.size ≤ q → A0 q) (isC : List Nat) (hC : isC.map (fun i => ws[i]?) = wc.map some)
    (hf : ∀ (x0 : α0) (x1 : α1) (x2 : α2) (x3 : α3) (x4 : α4) (x5 : α5) (x6 : α6) (x7 : α7) (x8 : α8) (x9 : α9) (x10 : α10) (x11 : α11) (x12 : α12), (w1 x0 x1 x2 x3 x4 x5 x6 x7 x8 x9 x10 x11 x12).map Prod.fst = wc.map Prod.fst)
    (kk : ∀ (r : Int64) (x0 : α0) (x1 : α1) (x2 : α2) (x3 : α3) (x4 : α4) (x5 : α5) (x6 : α6) (x7 : α7) (x8 : α8) (x9 : α9) (x10 : α10) (x11 : α11) (x12 : α12) (H1 : Heap) (locs1 : List Loc), P r x0 x1 x2 x3 x4 x5 x6 x7 x8 x9 x10 x11 x12 → kX D A0 (updAll ws isC (w1 x0 x1 x2 x3 x4 x5 x6 x7 x8 x9 x10 x11 x12)) X H1 → va_S A0 H0 H1 locs1 → W p l e R s m args below meth c H1 locs1 cells slots Q (F0 m (pc + 3) ls (.long r :: rest))) : W p l e R s m args below meth c H locs cells slots Q (F0 m pc ls st0) := by
  have hF := va_free hB0.2.1 hS hA isC hC
  refine va_calll hr hS (fun q _ h => hF q h) hF (fun r u t H1 locs1 ht hvm hw hB2 hz1 hk1 hS1 => ?_)
  obtain ⟨x0, x1, x2, x3, x4, x5, x6, x7, x8, x9, x10, x11, x12⟩ := u
  obtain ⟨hP1, hK1, hD1⟩ := hB2
  rw [ht] at hP1
  exact kk r x0 x1 x2 x3 x4 x5 x6 x7 x8 x9 x10 x11 x12 H1 locs1 hw (kJoinS hB0 isC hC (hf x0 x1 x2 x3 x4 x5 x6 x7 x8 x9 x10 x11 x12) hk1 hP1) hS1
theorem kSi14 {α0 α1 α2 α3 α4 α5 α6 α7 α8 α9 α10 α11 α12 α13 : Type} {p : Program} {l : Launch} {e : Env} {R : Room} {s : State} {m : MethodId} {args a : Array Value} {below : List Frame} {meth : Method} {c : Code} {H H0 : Heap} {locs : List Loc} {cells slots : Nat} {Q : State → Prop} {D : va_G} {tys : List (ClassId × FieldType)} {P : Int32 → α0 → α1 → α2 → α3 → α4 → α5 → α6 → α7 → α8 → α9 → α10 → α11 → α12 → α13 → Prop} {w1 : α0 → α1 → α2 → α3 → α4 → α5 → α6 → α7 → α8 → α9 → α10 → α11 → α12 → α13 → va_W} {A0 : Nat → Prop} {ws wc X : va_W} {pc : Nat} {ls : Array Slot} {st0 rest : List Value}
    (hr : va_Run p l e R s m args below meth c H locs cells slots 0 0 (F0 m pc ls st0) rest (kQi14 D tys P w1 (va_A wc H.size) a) (va_A wc H.size)) (hB0 : kX D A0 ws X H) (hS : va_S A0 H0 H locs) (hA : ∀ q : Nat, H0.size ≤ q → A0 q) (isC : List Nat) (hC : isC.map (fun i => ws[i]?) = wc.map some)
    (hf : ∀ (x0 : α0) (x1 : α1) (x2 : α2) (x3 : α3) (x4 : α4) (x5 : α5) (x6 : α6) (x7 : α7) (x8 : α8) (x9 : α9) (x10 : α10) (x11 : α11) (x12 : α12) (x13 : α13), (w1 x0 x1 x2 x3 x4 x5 x6 x7 x8 x9 x10 x11 x12 x13).map Prod.fst = wc.map Prod.fst)
    (kk : ∀ (r : Int32) (x0 : α0) (x1 : α1) (x2 : α2) (x3 : α3) (x4 : α4) (x5 : α5) (x6 : α6) (x7 : α7) (x8 : α8) (x9 : α9) (x10 : α10) (x11 : α11) (x12 : α12) (x13 : α13) (H1 : Heap) (locs1 : List Loc), P r x0 x1 x2 x3 x4 x5 x6 x7 x8 x9 x10 x11 x12 x13 → kX D A0 (updAll ws isC (w1 x0 x1 x2 x3 x4 x5 x6 x7 x8 x9 x10 x11 x12 x13)) X H1 → va_S A0 H0 H1 locs1 → W p l e R s m args below meth c H1 locs1 cells slots Q (F0 m (pc + 3) ls (.int r :: rest))) : W p l e R s m args below meth c H locs cells slots Q (F0 m pc ls st0) := by
  have hF := va_free hB0.2.1 hS hA isC hC
  refine va_calli hr hS (fun q _ h => hF q h) hF (fun r u t H1 locs1 ht hvm hw hB2 hz1 hk1 hS1 => ?_)
  obtain ⟨x0, x1, x2, x3, x4, x5, x6, x7, x8, x9, x10, x11, x12, x13⟩ := u
  obtain ⟨hP1, hK1, hD1⟩ := hB2
  rw [ht] at hP1
  exact kk r x0 x1 x2 x3 x4 x5 x6 x7 x8 x9 x10 x11 x12 x13 H1 locs1 hw (kJoinS hB0 isC hC (hf x0 x1 x2 x3 x4 x5 x6 x7 x8 x9 x10 x11 x12 x13) hk1 hP1) hS1
theorem kSl14 {α0 α1 α2 α3 α4 α5 α6 α7 α8 α9 α10 α11 α12 α13 : Type} {p : Program} {l : Launch} {e : Env} {R : Room} {s : State} {m : MethodId} {args a : Array Value} {below : List Frame} {meth : Method} {c : Code} {H H0 : Heap} {locs : List Loc} {cells slots : Nat} {Q : State → Prop} {D : va_G} {tys : List (ClassId × FieldType)} {P : Int64 → α0 → α1 → α2 → α3 → α4 → α5 → α6 → α7 → α8 → α9 → α10 → α11 → α12 → α13 → Prop} {w1 : α0 → α1 → α2 → α3 → α4 → α5 → α6 → α7 → α8 → α9 → α10 → α11 → α12 → α13 → va_W} {A0 : Nat → Prop} {ws wc X : va_W} {pc : Nat} {ls : Array Slot} {st0 rest : List Value}
    (hr : va_Run p l e R s m args below meth c H locs cells slots 0 0 (F0 m pc ls st0) rest (kQl14 D tys P w1 (va_A wc H.size) a) (va_A wc H.size)) (hB0 : kX D A0 ws X H) (hS : va_S A0 H0 H locs) (hA : ∀ q : Nat, H0.size ≤ q → A0 q) (isC : List Nat) (hC : isC.map (fun i => ws[i]?) = wc.map some)
    (hf : ∀ (x0 : α0) (x1 : α1) (x2 : α2) (x3 : α3) (x4 : α4) (x5 : α5) (x6 : α6) (x7 : α7) (x8 : α8) (x9 : α9) (x10 : α10) (x11 : α11) (x12 : α12) (x13 : α13), (w1 x0 x1 x2 x3 x4 x5 x6 x7 x8 x9 x10 x11 x12 x13).map Prod.fst = wc.map Prod.fst)
    (kk : ∀ (r : Int64) (x0 : α0) (x1 : α1) (x2 : α2) (x3 : α3) (x4 : α4) (x5 : α5) (x6 : α6) (x7 : α7) (x8 : α8) (x9 : α9) (x10 : α10) (x11 : α11) (x12 : α12) (x13 : α13) (H1 : Heap) (locs1 : List Loc), P r x0 x1 x2 x3 x4 x5 x6 x7 x8 x9 x10 x11 x12 x13 → kX D A0 (updAll ws isC (w1 x0 x1 x2 x3 x4 x5 x6 x7 x8 x9 x10 x11 x12 x13)) X H1 → va_S A0 H0 H1 locs1 → W p l e R s m args below meth c H1 locs1 cells slots Q (F0 m (pc + 3) ls (.long r :: rest))) : W p l e R s m args below meth c H locs cells slots Q (F0 m pc ls st0) := by
  have hF := va_free hB0.2.1 hS hA isC hC
  refine va_calll hr hS (fun q _ h => hF q h) hF (fun r u t H1 locs1 ht hvm hw hB2 hz1 hk1 hS1 => ?_)
  obtain ⟨x0, x1, x2, x3, x4, x5, x6, x7, x8, x9, x10, x11, x12, x13⟩ := u
  obtain ⟨hP1, hK1, hD1⟩ := hB2
  rw [ht] at hP1
  exact kk r x0 x1 x2 x3 x4 x5 x6 x7 x8 x9 x10 x11 x12 x13 H1 locs1 hw (kJoinS hB0 isC hC (hf x0 x1 x2 x3 x4 x5 x6 x7 x8 x9 x10 x11 x12 x13) hk1 hP1) hS1
theorem kSi15 {α0 α1 α2 α3 α4 α5 α6 α7 α8 α9 α10 α11 α12 α13 α14 : Type} {p : Program} {l : Launch} {e : Env} {R : Room} {s : State} {m : MethodId} {args a : Array Value} {below : List Frame} {meth : Method} {c : Code} {H H0 : Heap} {locs : List Loc} {cells slots : Nat} {Q : State → Prop} {D : va_G} {tys : List (ClassId × FieldType)} {P : Int32 → α0 → α1 → α2 → α3 → α4 → α5 → α6 → α7 → α8 → α9 → α10 → α11 → α12 → α13 → α14 → Prop} {w1 : α0 → α1 → α2 → α3 → α4 → α5 → α6 → α7 → α8 → α9 → α10 → α11 → α12 → α13 → α14 → va_W} {A0 : Nat → Prop} {ws wc X : va_W} {pc : Nat} {ls : Array Slot} {st0 rest : List Value}
    (hr : va_Run p l e R s m args below meth c H locs cells slots 0 0 (F0 m pc ls st0) rest (kQi15 D tys P w1 (va_A wc H.size) a) (va_A wc H.size)) (hB0 : kX D A0 ws X H) (hS : va_S A0 H0 H locs) (hA : ∀ q : Nat, H0.size ≤ q → A0 q) (isC : List Nat) (hC : isC.map (fun i => ws[i]?) = wc.map some)
    (hf : ∀ (x0 : α0) (x1 : α1) (x2 : α2) (x3 : α3) (x4 : α4) (x5 : α5) (x6 : α6) (x7 : α7) (x8 : α8) (x9 : α9) (x10 : α10) (x11 : α11) (x12 : α12) (x13 : α13) (x14 : α14), (w1 x0 x1 x2 x3 x4 x5 x6 x7 x8 x9 x10 x11 x12 x13 x14).map Prod.fst = wc.map Prod.fst)
    (kk : ∀ (r : Int32) (x0 : α0) (x1 : α1) (x2 : α2) (x3 : α3) (x4 : α4) (x5 : α5) (x6 : α6) (x7 : α7) (x8 : α8) (x9 : α9) (x10 : α10) (x11 : α11) (x12 : α12) (x13 : α13) (x14 : α14) (H1 : Heap) (locs1 : List Loc), P r x0 x1 x2 x3 x4 x5 x6 x7 x8 x9 x10 x11 x12 x13 x14 → kX D A0 (updAll ws isC (w1 x0 x1 x2 x3 x4 x5 x6 x7 x8 x9 x10 x11 x12 x13 x14)) X H1 → va_S A0 H0 H1 locs1 → W p l e R s m args below meth c H1 locs1 cells slots Q (F0 m (pc + 3) ls (.int r :: rest))) : W p l e R s m args below meth c H locs cells slots Q (F0 m pc ls st0) := by
  have hF := va_free hB0.2.1 hS hA isC hC
  refine va_calli hr hS (fun q _ h => hF q h) hF (fun r u t H1 locs1 ht hvm hw hB2 hz1 hk1 hS1 => ?_)
  obtain ⟨x0, x1, x2, x3, x4, x5, x6, x7, x8, x9, x10, x11, x12, x13, x14⟩ := u
  obtain ⟨hP1, hK1, hD1⟩ := hB2
  rw [ht] at hP1
  exact kk r x0 x1 x2 x3 x4 x5 x6 x7 x8 x9 x10 x11 x12 x13 x14 H1 locs1 hw (kJoinS hB0 isC hC (hf x0 x1 x2 x3 x4 x5 x6 x7 x8 x9 x10 x11 x12 x13 x14) hk1 hP1) hS1
theorem kSl15 {α0 α1 α2 α3 α4 α5 α6 α7 α8 α9 α10 α11 α12 α13 α14 : Type} {p : Program} {l : Launch} {e : Env} {R : Room} {s : State} {m : MethodId} {args a : Array Value} {below : List Frame} {meth : Method} {c : Code} {H H0 : Heap} {locs : List Loc} {cells slots : Nat} {Q : State → Prop} {D : va_G} {tys : List (ClassId × FieldType)} {P : Int64 → α0 → α1 → α2 → α3 → α4 → α5 → α6 → α7 → α8 → α9 → α10 → α11 → α12 → α13 → α14 → Prop} {w1 : α0 → α1 → α2 → α3 → α4 → α5 → α6 → α7 → α8 → α9 → α10 → α11 → α12 → α13 → α14 → va_W} {A0 : Nat → Prop} {ws wc X : va_W} {pc : Nat} {ls : Array Slot} {st0 rest : List Value}
    (hr : va_Run p l e R s m args below meth c H locs cells slots 0 0 (F0 m pc ls st0) rest (kQl15 D tys P w1 (va_A wc H.size) a) (va_A wc H.size)) (hB0 : kX D A0 ws X H) (hS : va_S A0 H0 H locs) (hA : ∀ q : Nat, H0.size ≤ q → A0 q) (isC : List Nat) (hC : isC.map (fun i => ws[i]?) = wc.map some)
    (hf : ∀ (x0 : α0) (x1 : α1) (x2 : α2) (x3 : α3) (x4 : α4) (x5 : α5) (x6 : α6) (x7 : α7) (x8 : α8) (x9 : α9) (x10 : α10) (x11 : α11) (x12 : α12) (x13 : α13) (x14 : α14), (w1 x0 x1 x2 x3 x4 x5 x6 x7 x8 x9 x10 x11 x12 x13 x14).map Prod.fst = wc.map Prod.fst)
    (kk : ∀ (r : Int64) (x0 : α0) (x1 : α1) (x2 : α2) (x3 : α3) (x4 : α4) (x5 : α5) (x6 : α6) (x7 : α7) (x8 : α8) (x9 : α9) (x10 : α10) (x11 : α11) (x12 : α12) (x13 : α13) (x14 : α14) (H1 : Heap) (locs1 : List Loc), P r x0 x1 x2 x3 x4 x5 x6 x7 x8 x9 x10 x11 x12 x13 x14 → kX D A0 (updAll ws isC (w1 x0 x1 x2 x3 x4 x5 x6 x7 x8 x9 x10 x11 x12 x13 x14)) X H1 → va_S A0 H0 H1 locs1 → W p l e R s m args below meth c H1 locs1 cells slots Q (F0 m (pc + 3) ls (.long r :: rest))) : W p l e R s m args below meth c H locs cells slots Q (F0 m pc ls st0) := by
  have hF := va_free hB0.2.1 hS hA isC hC
  refine va_calll hr hS (fun q _ h => hF q h) hF (fun r u t H1 locs1 ht hvm hw hB2 hz1 hk1 hS1 => ?_)
  obtain ⟨x0, x1, x2, x3, x4, x5, x6, x7, x8, x9, x10, x11, x12, x13, x14⟩ := u
  obtain ⟨hP1, hK1, hD1⟩ := hB2
  rw [ht] at hP1
  exact kk r x0 x1 x2 x3 x4 x5 x6 x7 x8 x9 x10 x11 x12 x13 x14 H1 locs1 hw (kJoinS hB0 isC hC (hf x0 x1 x2 x3 x4 x5 x6 x7 x8 x9 x10 x11 x12 x13 x14) hk1 hP1) hS1
theorem kSi16 {α0 α1 α2 α3 α4 α5 α6 α7 α8 α9 α10 α11 α12 α13 α14 α15 : Type} {p : Program} {l : Launch} {e : Env} {R : Room} {s : State} {m : MethodId} {args a : Array Value} {below : List Frame} {meth : Method} {c : Code} {H H0 : Heap} {locs : List Loc} {cells slots : Nat} {Q : State → Prop} {D : va_G} {tys : List (ClassId × FieldType)} {P : Int32 → α0 → α1 → α2 → α3 → α4 → α5 → α6 → α7 → α8 → α9 → α10 → α11 → α12 → α13 → α14 → α15 → Prop} {w1 : α0 → α1 → α2 → α3 → α4 → α5 → α6 → α7 → α8 → α9 → α10 → α11 → α12 → α13 → α14 → α15 → va_W} {A0 : Nat → Prop} {ws wc X : va_W} {pc : Nat} {ls : Array Slot} {st0 rest : List Value}
    (hr : va_Run p l e R s m args below meth c H locs cells slots 0 0 (F0 m pc ls st0) rest (kQi16 D tys P w1 (va_A wc H.size) a) (va_A wc H.size)) (hB0 : kX D A0 ws X H) (hS : va_S A0 H0 H locs) (hA : ∀ q : Nat, H0.size ≤ q → A0 q) (isC : List Nat) (hC : isC.map (fun i => ws[i]?) = wc.map some)
    (hf : ∀ (x0 : α0) (x1 : α1) (x2 : α2) (x3 : α3) (x4 : α4) (x5 : α5) (x6 : α6) (x7 : α7) (x8 : α8) (x9 : α9) (x10 : α10) (x11 : α11) (x12 : α12) (x13 : α13) (x14 : α14) (x15 : α15), (w1 x0 x1 x2 x3 x4 x5 x6 x7 x8 x9 x10 x11 x12 x13 x14 x15).map Prod.fst = wc.map Prod.fst)
    (kk : ∀ (r : Int32) (x0 : α0) (x1 : α1) (x2 : α2) (x3 : α3) (x4 : α4) (x5 : α5) (x6 : α6) (x7 : α7) (x8 : α8) (x9 : α9) (x10 : α10) (x11 : α11) (x12 : α12) (x13 : α13) (x14 : α14) (x15 : α15) (H1 : Heap) (locs1 : List Loc), P r x0 x1 x2 x3 x4 x5 x6 x7 x8 x9 x10 x11 x12 x13 x14 x15 → kX D A0 (updAll ws isC (w1 x0 x1 x2 x3 x4 x5 x6 x7 x8 x9 x10 x11 x12 x13 x14 x15)) X H1 → va_S A0 H0 H1 locs1 → W p l e R s m args below meth c H1 locs1 cells slots Q (F0 m (pc + 3) ls (.int r :: rest))) : W p l e R s m args below meth c H locs cells slots Q (F0 m pc ls st0) := by
  have hF := va_free hB0.2.1 hS hA isC hC
  refine va_calli hr hS (fun q _ h => hF q h) hF (fun r u t H1 locs1 ht hvm hw hB2 hz1 hk1 hS1 => ?_)
  obtain ⟨x0, x1, x2, x3, x4, x5, x6, x7, x8, x9, x10, x11, x12, x13, x14, x15⟩ := u
  obtain ⟨hP1, hK1, hD1⟩ := hB2
  rw [ht] at hP1
  exact kk r x0 x1 x2 x3 x4 x5 x6 x7 x8 x9 x10 x11 x12 x13 x14 x15 H1 locs1 hw (kJoinS hB0 isC hC (hf x0 x1 x2 x3 x4 x5 x6 x7 x8 x9 x10 x11 x12 x13 x14 x15) hk1 hP1) hS1
theorem kSl16 {α0 α1 α2 α3 α4 α5 α6 α7 α8 α9 α10 α11 α12 α13 α14 α15 : Type} {p : Program} {l : Launch} {e : Env} {R : Room} {s : State} {m : MethodId} {args a : Array Value} {below : List Frame} {meth : Method} {c : Code} {H H0 : Heap} {locs : List Loc} {cells slots : Nat} {Q : State → Prop} {D : va_G} {tys : List (ClassId × FieldType)} {P : Int64 → α0 → α1 → α2 → α3 → α4 → α5 → α6 → α7 → α8 → α9 → α10 → α11 → α12 → α13 → α14 → α15 → Prop} {w1 : α0 → α1 → α2 → α3 → α4 → α5 → α6 → α7 → α8 → α9 → α10 → α11 → α12 → α13 → α14 → α15 → va_W} {A0 : Nat → Prop} {ws wc X : va_W} {pc : Nat} {ls : Array Slot} {st0 rest : List Value}
    (hr : va_Run p l e R s m args below meth c H locs cells slots 0 0 (F0 m pc ls st0) rest (kQl16 D tys P w1 (va_A wc H.size) a) (va_A wc H.size)) (hB0 : kX D A0 ws X H) (hS : va_S A0 H0 H locs) (hA : ∀ q : Nat, H0.size ≤ q → A0 q) (isC : List Nat) (hC : isC.map (fun i => ws[i]?) = wc.map some)
    (hf : ∀ (x0 : α0) (x1 : α1) (x2 : α2) (x3 : α3) (x4 : α4) (x5 : α5) (x6 : α6) (x7 : α7) (x8 : α8) (x9 : α9) (x10 : α10) (x11 : α11) (x12 : α12) (x13 : α13) (x14 : α14) (x15 : α15), (w1 x0 x1 x2 x3 x4 x5 x6 x7 x8 x9 x10 x11 x12 x13 x14 x15).map Prod.fst = wc.map Prod.fst)
    (kk : ∀ (r : Int64) (x0 : α0) (x1 : α1) (x2 : α2) (x3 : α3) (x4 : α4) (x5 : α5) (x6 : α6) (x7 : α7) (x8 : α8) (x9 : α9) (x10 : α10) (x11 : α11) (x12 : α12) (x13 : α13) (x14 : α14) (x15 : α15) (H1 : Heap) (locs1 : List Loc), P r x0 x1 x2 x3 x4 x5 x6 x7 x8 x9 x10 x11 x12 x13 x14 x15 → kX D A0 (updAll ws isC (w1 x0 x1 x2 x3 x4 x5 x6 x7 x8 x9 x10 x11 x12 x13 x14 x15)) X H1 → va_S A0 H0 H1 locs1 → W p l e R s m args below meth c H1 locs1 cells slots Q (F0 m (pc + 3) ls (.long r :: rest))) : W p l e R s m args below meth c H locs cells slots Q (F0 m pc ls st0) := by
  have hF := va_free hB0.2.1 hS hA isC hC
  refine va_calll hr hS (fun q _ h => hF q h) hF (fun r u t H1 locs1 ht hvm hw hB2 hz1 hk1 hS1 => ?_)
  obtain ⟨x0, x1, x2, x3, x4, x5, x6, x7, x8, x9, x10, x11, x12, x13, x14, x15⟩ := u
  obtain ⟨hP1, hK1, hD1⟩ := hB2
  rw [ht] at hP1
  exact kk r x0 x1 x2 x3 x4 x5 x6 x7 x8 x9 x10 x11 x12 x13 x14 x15 H1 locs1 hw (kJoinS hB0 isC hC (hf x0 x1 x2 x3 x4 x5 x6 x7 x8 x9 x10 x11 x12 x13 x14 x15) hk1 hP1) hS1
theorem kSi17 {α0 α1 α2 α3 α4 α5 α6 α7 α8 α9 α10 α11 α12 α13 α14 α15 α16 : Type} {p : Program} {l : Launch} {e : Env} {R : Room} {s : State} {m : MethodId} {args a : Array Value} {below : List Frame} {meth : Method} {c : Code} {H H0 : Heap} {locs : List Loc} {cells slots : Nat} {Q : State → Prop} {D : va_G} {tys : List (ClassId × FieldType)} {P : Int32 → α0 → α1 → α2 → α3 → α4 → α5 → α6 → α7 → α8 → α9 → α10 → α11 → α12 → α13 → α14 → α15 → α16 → Prop} {w1 : α0 → α1 → α2 → α3 → α4 → α5 → α6 → α7 → α8 → α9 → α10 → α11 → α12 → α13 → α14 → α15 → α16 → va_W} {A0 : Nat → Prop} {ws wc X : va_W} {pc : Nat} {ls : Array Slot} {st0 rest : List Value}
    (hr : va_Run p l e R s m args below meth c H locs cells slots 0 0 (F0 m pc ls st0) rest (kQi17 D tys P w1 (va_A wc H.size) a) (va_A wc H.size)) (hB0 : kX D A0 ws X H) (hS : va_S A0 H0 H locs) (hA : ∀ q : Nat, H0.size ≤ q → A0 q) (isC : List Nat) (hC : isC.map (fun i => ws[i]?) = wc.map some)
    (hf : ∀ (x0 : α0) (x1 : α1) (x2 : α2) (x3 : α3) (x4 : α4) (x5 : α5) (x6 : α6) (x7 : α7) (x8 : α8) (x9 : α9) (x10 : α10) (x11 : α11) (x12 : α12) (x13 : α13) (x14 : α14) (x15 : α15) (x16 : α16), (w1 x0 x1 x2 x3 x4 x5 x6 x7 x8 x9 x10 x11 x12 x13 x14 x15 x16).map Prod.fst = wc.map Prod.fst)
    (kk : ∀ (r : Int32) (x0 : α0) (x1 : α1) (x2 : α2) (x3 : α3) (x4 : α4) (x5 : α5) (x6 : α6) (x7 : α7) (x8 : α8) (x9 : α9) (x10 : α10) (x11 : α11) (x12 : α12) (x13 : α13) (x14 : α14) (x15 : α15) (x16 : α16) (H1 : Heap) (locs1 : List Loc), P r x0 x1 x2 x3 x4 x5 x6 x7 x8 x9 x10 x11 x12 x13 x14 x15 x16 → kX D A0 (updAll ws isC (w1 x0 x1 x2 x3 x4 x5 x6 x7 x8 x9 x10 x11 x12 x13 x14 x15 x16)) X H1 → va_S A0 H0 H1 locs1 → W p l e R s m args below meth c H1 locs1 cells slots Q (F0 m (pc + 3) ls (.int r :: rest))) : W p l e R s m args below meth c H locs cells slots Q (F0 m pc ls st0) := by
  have hF := va_free hB0.2.1 hS hA isC hC
  refine va_calli hr hS (fun q _ h => hF q h) hF (fun r u t H1 locs1 ht hvm hw hB2 hz1 hk1 hS1 => ?_)
  obtain ⟨x0, x1, x2, x3, x4, x5, x6, x7, x8, x9, x10, x11, x12, x13, x14, x15, x16⟩ := u
  obtain ⟨hP1, hK1, hD1⟩ := hB2
  rw [ht] at hP1
  exact kk r x0 x1 x2 x3 x4 x5 x6 x7 x8 x9 x10 x11 x12 x13 x14 x15 x16 H1 locs1 hw (kJoinS hB0 isC hC (hf x0 x1 x2 x3 x4 x5 x6 x7 x8 x9 x10 x11 x12 x13 x14 x15 x16) hk1 hP1) hS1
theorem kSl17 {α0 α1 α2 α3 α4 α5 α6 α7 α8 α9 α10 α11 α12 α13 α14 α15 α16 : Type} {p : Program} {l : Launch} {e : Env} {R : Room} {s : State} {m : MethodId} {args a : Array Value} {below : List Frame} {meth : Method} {c : Code} {H H0 : Heap} {locs : List Loc} {cells slots : Nat} {Q : State → Prop} {D : va_G} {tys : List (ClassId × FieldType)} {P : Int64 → α0 → α1 → α2 → α3 → α4 → α5 → α6 → α7 → α8 → α9 → α10 → α11 → α12 → α13 → α14 → α15 → α16 → Prop} {w1 : α0 → α1 → α2 → α3 → α4 → α5 → α6 → α7 → α8 → α9 → α10 → α11 → α12 → α13 → α14 → α15 → α16 → va_W} {A0 : Nat → Prop} {ws wc X : va_W} {pc : Nat} {ls : Array Slot} {st0 rest : List Value}
    (hr : va_Run p l e R s m args below meth c H locs cells slots 0 0 (F0 m pc ls st0) rest (kQl17 D tys P w1 (va_A wc H.size) a) (va_A wc H.size)) (hB0 : kX D A0 ws X H) (hS : va_S A0 H0 H locs) (hA : ∀ q : Nat, H0.size ≤ q → A0 q) (isC : List Nat) (hC : isC.map (fun i => ws[i]?) = wc.map some)
    (hf : ∀ (x0 : α0) (x1 : α1) (x2 : α2) (x3 : α3) (x4 : α4) (x5 : α5) (x6 : α6) (x7 : α7) (x8 : α8) (x9 : α9) (x10 : α10) (x11 : α11) (x12 : α12) (x13 : α13) (x14 : α14) (x15 : α15) (x16 : α16), (w1 x0 x1 x2 x3 x4 x5 x6 x7 x8 x9 x10 x11 x12 x13 x14 x15 x16).map Prod.fst = wc.map Prod.fst)
    (kk : ∀ (r : Int64) (x0 : α0) (x1 : α1) (x2 : α2) (x3 : α3) (x4 : α4) (x5 : α5) (x6 : α6) (x7 : α7) (x8 : α8) (x9 : α9) (x10 : α10) (x11 : α11) (x12 : α12) (x13 : α13) (x14 : α14) (x15 : α15) (x16 : α16) (H1 : Heap) (locs1 : List Loc), P r x0 x1 x2 x3 x4 x5 x6 x7 x8 x9 x10 x11 x12 x13 x14 x15 x16 → kX D A0 (updAll ws isC (w1 x0 x1 x2 x3 x4 x5 x6 x7 x8 x9 x10 x11 x12 x13 x14 x15 x16)) X H1 → va_S A0 H0 H1 locs1 → W p l e R s m args below meth c H1 locs1 cells slots Q (F0 m (pc + 3) ls (.long r :: rest))) : W p l e R s m args below meth c H locs cells slots Q (F0 m pc ls st0) := by
  have hF := va_free hB0.2.1 hS hA isC hC
  refine va_calll hr hS (fun q _ h => hF q h) hF (fun r u t H1 locs1 ht hvm hw hB2 hz1 hk1 hS1 => ?_)
  obtain ⟨x0, x1, x2, x3, x4, x5, x6, x7, x8, x9, x10, x11, x12, x13, x14, x15, x16⟩ := u
  obtain ⟨hP1, hK1, hD1⟩ := hB2
  rw [ht] at hP1
  exact kk r x0 x1 x2 x3 x4 x5 x6 x7 x8 x9 x10 x11 x12 x13 x14 x15 x16 H1 locs1 hw (kJoinS hB0 isC hC (hf x0 x1 x2 x3 x4 x5 x6 x7 x8 x9 x10 x11 x12 x13 x14 x15 x16) hk1 hP1) hS1
theorem kSi18 {α0 α1 α2 α3 α4 α5 α6 α7 α8 α9 α10 α11 α12 α13 α14 α15 α16 α17 : Type} {p : Program} {l : Launch} {e : Env} {R : Room} {s : State} {m : MethodId} {args a : Array Value} {below : List Frame} {meth : Method} {c : Code} {H H0 : Heap} {locs : List Loc} {cells slots : Nat} {Q : State → Prop} {D : va_G} {tys : List (ClassId × FieldType)} {P : Int32 → α0 → α1 → α2 → α3 → α4 → α5 → α6 → α7 → α8 → α9 → α10 → α11 → α12 → α13 → α14 → α15 → α16 → α17 → Prop} {w1 : α0 → α1 → α2 → α3 → α4 → α5 → α6 → α7 → α8 → α9 → α10 → α11 → α12 → α13 → α14 → α15 → α16 → α17 → va_W} {A0 : Nat → Prop} {ws wc X : va_W} {pc : Nat} {ls : Array Slot} {st0 rest : List Value}
    (hr : va_Run p l e R s m args below meth c H locs cells slots 0 0 (F0 m pc ls st0) rest (kQi18 D tys P w1 (va_A wc H.size) a) (va_A wc H.size)) (hB0 : kX D A0 ws X H) (hS : va_S A0 H0 H locs) (hA : ∀ q : Nat, H0.size ≤ q → A0 q) (isC : List Nat) (hC : isC.map (fun i => ws[i]?) = wc.map some)
    (hf : ∀ (x0 : α0) (x1 : α1) (x2 : α2) (x3 : α3) (x4 : α4) (x5 : α5) (x6 : α6) (x7 : α7) (x8 : α8) (x9 : α9) (x10 : α10) (x11 : α11) (x12 : α12) (x13 : α13) (x14 : α14) (x15 : α15) (x16 : α16) (x17 : α17), (w1 x0 x1 x2 x3 x4 x5 x6 x7 x8 x9 x10 x11 x12 x13 x14 x15 x16 x17).map Prod.fst = wc.map Prod.fst)
    (kk : ∀ (r : Int32) (x0 : α0) (x1 : α1) (x2 : α2) (x3 : α3) (x4 : α4) (x5 : α5) (x6 : α6) (x7 : α7) (x8 : α8) (x9 : α9) (x10 : α10) (x11 : α11) (x12 : α12) (x13 : α13) (x14 : α14) (x15 : α15) (x16 : α16) (x17 : α17) (H1 : Heap) (locs1 : List Loc), P r x0 x1 x2 x3 x4 x5 x6 x7 x8 x9 x10 x11 x12 x13 x14 x15 x16 x17 → kX D A0 (updAll ws isC (w1 x0 x1 x2 x3 x4 x5 x6 x7 x8 x9 x10 x11 x12 x13 x14 x15 x16 x17)) X H1 → va_S A0 H0 H1 locs1 → W p l e R s m args below meth c H1 locs1 cells slots Q (F0 m (pc + 3) ls (.int r :: rest))) : W p l e R s m args below meth c H locs cells slots Q (F0 m pc ls st0) := by
  have hF := va_free hB0.2.1 hS hA isC hC
  refine va_calli hr hS (fun q _ h => hF q h) hF (fun r u t H1 locs1 ht hvm hw hB2 hz1 hk1 hS1 => ?_)
  obtain ⟨x0, x1, x2, x3, x4, x5, x6, x7, x8, x9, x10, x11, x12, x13, x14, x15, x16, x17⟩ := u
  obtain ⟨hP1, hK1, hD1⟩ := hB2
  rw [ht] at hP1
  exact kk r x0 x1 x2 x3 x4 x5 x6 x7 x8 x9 x10 x11 x12 x13 x14 x15 x16 x17 H1 locs1 hw (kJoinS hB0 isC hC (hf x0 x1 x2 x3 x4 x5 x6 x7 x8 x9 x10 x11 x12 x13 x14 x15 x16 x17) hk1 hP1) hS1
theorem kSi19 {α0 α1 α2 α3 α4 α5 α6 α7 α8 α9 α10 α11 α12 α13 α14 α15 α16 α17 α18 : Type} {p : Program} {l : Launch} {e : Env} {R : Room} {s : State} {m : MethodId} {args a : Array Value} {below : List Frame} {meth : Method} {c : Code} {H H0 : Heap} {locs : List Loc} {cells slots : Nat} {Q : State → Prop} {D : va_G} {tys : List (ClassId × FieldType)} {P : Int32 → α0 → α1 → α2 → α3 → α4 → α5 → α6 → α7 → α8 → α9 → α10 → α11 → α12 → α13 → α14 → α15 → α16 → α17 → α18 → Prop} {w1 : α0 → α1 → α2 → α3 → α4 → α5 → α6 → α7 → α8 → α9 → α10 → α11 → α12 → α13 → α14 → α15 → α16 → α17 → α18 → va_W} {A0 : Nat → Prop} {ws wc X : va_W} {pc : Nat} {ls : Array Slot} {st0 rest : List Value}
    (hr : va_Run p l e R s m args below meth c H locs cells slots 0 0 (F0 m pc ls st0) rest (kQi19 D tys P w1 (va_A wc H.size) a) (va_A wc H.size)) (hB0 : kX D A0 ws X H) (hS : va_S A0 H0 H locs) (hA : ∀ q : Nat, H0.size ≤ q → A0 q) (isC : List Nat) (hC : isC.map (fun i => ws[i]?) = wc.map some)
    (hf : ∀ (x0 : α0) (x1 : α1) (x2 : α2) (x3 : α3) (x4 : α4) (x5 : α5) (x6 : α6) (x7 : α7) (x8 : α8) (x9 : α9) (x10 : α10) (x11 : α11) (x12 : α12) (x13 : α13) (x14 : α14) (x15 : α15) (x16 : α16) (x17 : α17) (x18 : α18), (w1 x0 x1 x2 x3 x4 x5 x6 x7 x8 x9 x10 x11 x12 x13 x14 x15 x16 x17 x18).map Prod.fst = wc.map Prod.fst)
    (kk : ∀ (r : Int32) (x0 : α0) (x1 : α1) (x2 : α2) (x3 : α3) (x4 : α4) (x5 : α5) (x6 : α6) (x7 : α7) (x8 : α8) (x9 : α9) (x10 : α10) (x11 : α11) (x12 : α12) (x13 : α13) (x14 : α14) (x15 : α15) (x16 : α16) (x17 : α17) (x18 : α18) (H1 : Heap) (locs1 : List Loc), P r x0 x1 x2 x3 x4 x5 x6 x7 x8 x9 x10 x11 x12 x13 x14 x15 x16 x17 x18 → kX D A0 (updAll ws isC (w1 x0 x1 x2 x3 x4 x5 x6 x7 x8 x9 x10 x11 x12 x13 x14 x15 x16 x17 x18)) X H1 → va_S A0 H0 H1 locs1 → W p l e R s m args below meth c H1 locs1 cells slots Q (F0 m (pc + 3) ls (.int r :: rest))) : W p l e R s m args below meth c H locs cells slots Q (F0 m pc ls st0) := by
  have hF := va_free hB0.2.1 hS hA isC hC
  refine va_calli hr hS (fun q _ h => hF q h) hF (fun r u t H1 locs1 ht hvm hw hB2 hz1 hk1 hS1 => ?_)
  obtain ⟨x0, x1, x2, x3, x4, x5, x6, x7, x8, x9, x10, x11, x12, x13, x14, x15, x16, x17, x18⟩ := u
  obtain ⟨hP1, hK1, hD1⟩ := hB2
  rw [ht] at hP1
  exact kk r x0 x1 x2 x3 x4 x5 x6 x7 x8 x9 x10 x11 x12 x13 x14 x15 x16 x17 x18 H1 locs1 hw (kJoinS hB0 isC hC (hf x0 x1 x2 x3 x4 x5 x6 x7 x8 x9 x10 x11 x12 x13 x14 x15 x16 x17 x18) hk1 hP1) hS1
theorem kSi20 {α0 α1 α2 α3 α4 α5 α6 α7 α8 α9 α10 α11 α12 α13 α14 α15 α16 α17 α18 α19 : Type} {p : Program} {l : Launch} {e : Env} {R : Room} {s : State} {m : MethodId} {args a : Array Value} {below : List Frame} {meth : Method} {c : Code} {H H0 : Heap} {locs : List Loc} {cells slots : Nat} {Q : State → Prop} {D : va_G} {tys : List (ClassId × FieldType)} {P : Int32 → α0 → α1 → α2 → α3 → α4 → α5 → α6 → α7 → α8 → α9 → α10 → α11 → α12 → α13 → α14 → α15 → α16 → α17 → α18 → α19 → Prop} {w1 : α0 → α1 → α2 → α3 → α4 → α5 → α6 → α7 → α8 → α9 → α10 → α11 → α12 → α13 → α14 → α15 → α16 → α17 → α18 → α19 → va_W} {A0 : Nat → Prop} {ws wc X : va_W} {pc : Nat} {ls : Array Slot} {st0 rest : List Value}
    (hr : va_Run p l e R s m args below meth c H locs cells slots 0 0 (F0 m pc ls st0) rest (kQi20 D tys P w1 (va_A wc H.size) a) (va_A wc H.size)) (hB0 : kX D A0 ws X H) (hS : va_S A0 H0 H locs) (hA : ∀ q : Nat, H0.size ≤ q → A0 q) (isC : List Nat) (hC : isC.map (fun i => ws[i]?) = wc.map some)
    (hf : ∀ (x0 : α0) (x1 : α1) (x2 : α2) (x3 : α3) (x4 : α4) (x5 : α5) (x6 : α6) (x7 : α7) (x8 : α8) (x9 : α9) (x10 : α10) (x11 : α11) (x12 : α12) (x13 : α13) (x14 : α14) (x15 : α15) (x16 : α16) (x17 : α17) (x18 : α18) (x19 : α19), (w1 x0 x1 x2 x3 x4 x5 x6 x7 x8 x9 x10 x11 x12 x13 x14 x15 x16 x17 x18 x19).map Prod.fst = wc.map Prod.fst)
    (kk : ∀ (r : Int32) (x0 : α0) (x1 : α1) (x2 : α2) (x3 : α3) (x4 : α4) (x5 : α5) (x6 : α6) (x7 : α7) (x8 : α8) (x9 : α9) (x10 : α10) (x11 : α11) (x12 : α12) (x13 : α13) (x14 : α14) (x15 : α15) (x16 : α16) (x17 : α17) (x18 : α18) (x19 : α19) (H1 : Heap) (locs1 : List Loc), P r x0 x1 x2 x3 x4 x5 x6 x7 x8 x9 x10 x11 x12 x13 x14 x15 x16 x17 x18 x19 → kX D A0 (updAll ws isC (w1 x0 x1 x2 x3 x4 x5 x6 x7 x8 x9 x10 x11 x12 x13 x14 x15 x16 x17 x18 x19)) X H1 → va_S A0 H0 H1 locs1 → W p l e R s m args below meth c H1 locs1 cells slots Q (F0 m (pc + 3) ls (.int r :: rest))) : W p l e R s m args below meth c H locs cells slots Q (F0 m pc ls st0) := by
  have hF := va_free hB0.2.1 hS hA isC hC
  refine va_calli hr hS (fun q _ h => hF q h) hF (fun r u t H1 locs1 ht hvm hw hB2 hz1 hk1 hS1 => ?_)
  obtain ⟨x0, x1, x2, x3, x4, x5, x6, x7, x8, x9, x10, x11, x12, x13, x14, x15, x16, x17, x18, x19⟩ := u
  obtain ⟨hP1, hK1, hD1⟩ := hB2
  rw [ht] at hP1
  exact kk r x0 x1 x2 x3 x4 x5 x6 x7 x8 x9 x10 x11 x12 x13 x14 x15 x16 x17 x18 x19 H1 locs1 hw (kJoinS hB0 isC hC (hf x0 x1 x2 x3 x4 x5 x6 x7 x8 x9 x10 x11 x12 x13 x14 x15 x16 x17 x18 x19) hk1 hP1) hS1
theorem kSi21 {α0 α1 α2 α3 α4 α5 α6 α7 α8 α9 α10 α11 α12 α13 α14 α15 α16 α17 α18 α19 α20 : Type} {p : Program} {l : Launch} {e : Env} {R : Room} {s : State} {m : MethodId} {args a : Array Value} {below : List Frame} {meth : Method} {c : Code} {H H0 : Heap} {locs : List Loc} {cells slots : Nat} {Q : State → Prop} {D : va_G} {tys : List (ClassId × FieldType)} {P : Int32 → α0 → α1 → α2 → α3 → α4 → α5 → α6 → α7 → α8 → α9 → α10 → α11 → α12 → α13 → α14 → α15 → α16 → α17 → α18 → α19 → α20 → Prop} {w1 : α0 → α1 → α2 → α3 → α4 → α5 → α6 → α7 → α8 → α9 → α10 → α11 → α12 → α13 → α14 → α15 → α16 → α17 → α18 → α19 → α20 → va_W} {A0 : Nat → Prop} {ws wc X : va_W} {pc : Nat} {ls : Array Slot} {st0 rest : List Value}
    (hr : va_Run p l e R s m args below meth c H locs cells slots 0 0 (F0 m pc ls st0) rest (kQi21 D tys P w1 (va_A wc H.size) a) (va_A wc H.size)) (hB0 : kX D A0 ws X H) (hS : va_S A0 H0 H locs) (hA : ∀ q : Nat, H0.size ≤ q → A0 q) (isC : List Nat) (hC : isC.map (fun i => ws[i]?) = wc.map some)
    (hf : ∀ (x0 : α0) (x1 : α1) (x2 : α2) (x3 : α3) (x4 : α4) (x5 : α5) (x6 : α6) (x7 : α7) (x8 : α8) (x9 : α9) (x10 : α10) (x11 : α11) (x12 : α12) (x13 : α13) (x14 : α14) (x15 : α15) (x16 : α16) (x17 : α17) (x18 : α18) (x19 : α19) (x20 : α20), (w1 x0 x1 x2 x3 x4 x5 x6 x7 x8 x9 x10 x11 x12 x13 x14 x15 x16 x17 x18 x19 x20).map Prod.fst = wc.map Prod.fst)
    (kk : ∀ (r : Int32) (x0 : α0) (x1 : α1) (x2 : α2) (x3 : α3) (x4 : α4) (x5 : α5) (x6 : α6) (x7 : α7) (x8 : α8) (x9 : α9) (x10 : α10) (x11 : α11) (x12 : α12) (x13 : α13) (x14 : α14) (x15 : α15) (x16 : α16) (x17 : α17) (x18 : α18) (x19 : α19) (x20 : α20) (H1 : Heap) (locs1 : List Loc), P r x0 x1 x2 x3 x4 x5 x6 x7 x8 x9 x10 x11 x12 x13 x14 x15 x16 x17 x18 x19 x20 → kX D A0 (updAll ws isC (w1 x0 x1 x2 x3 x4 x5 x6 x7 x8 x9 x10 x11 x12 x13 x14 x15 x16 x17 x18 x19 x20)) X H1 → va_S A0 H0 H1 locs1 → W p l e R s m args below meth c H1 locs1 cells slots Q (F0 m (pc + 3) ls (.int r :: rest))) : W p l e R s m args below meth c H locs cells slots Q (F0 m pc ls st0) := by
  have hF := va_free hB0.2.1 hS hA isC hC
  refine va_calli hr hS (fun q _ h => hF q h) hF (fun r u t H1 locs1 ht hvm hw hB2 hz1 hk1 hS1 => ?_)
  obtain ⟨x0, x1, x2, x3, x4, x5, x6, x7, x8, x9, x10, x11, x12, x13, x14, x15, x16, x17, x18, x19, x20⟩ := u
  obtain ⟨hP1, hK1, hD1⟩ := hB2
  rw [ht] at hP1
  exact kk r x0 x1 x2 x3 x4 x5 x6 x7 x8 x9 x10 x11 x12 x13 x14 x15 x16 x17 x18 x19 x20 H1 locs1 hw (kJoinS hB0 isC hC (hf x0 x1 x2 x3 x4 x5 x6 x7 x8 x9 x10 x11 x12 x13 x14 x15 x16 x17 x18 x19 x20) hk1 hP1) hS1
theorem kSi22 {α0 α1 α2 α3 α4 α5 α6 α7 α8 α9 α10 α11 α12 α13 α14 α15 α16 α17 α18 α19 α20 α21 : Type} {p : Program} {l : Launch} {e : Env} {R : Room} {s : State} {m : MethodId} {args a : Array Value} {below : List Frame} {meth : Method} {c : Code} {H H0 : Heap} {locs : List Loc} {cells slots : Nat} {Q : State → Prop} {D : va_G} {tys : List (ClassId × FieldType)} {P : Int32 → α0 → α1 → α2 → α3 → α4 → α5 → α6 → α7 → α8 → α9 → α10 → α11 → α12 → α13 → α14 → α15 → α16 → α17 → α18 → α19 → α20 → α21 → Prop} {w1 : α0 → α1 → α2 → α3 → α4 → α5 → α6 → α7 → α8 → α9 → α10 → α11 → α12 → α13 → α14 → α15 → α16 → α17 → α18 → α19 → α20 → α21 → va_W} {A0 : Nat → Prop} {ws wc X : va_W} {pc : Nat} {ls : Array Slot} {st0 rest : List Value}
    (hr : va_Run p l e R s m args below meth c H locs cells slots 0 0 (F0 m pc ls st0) rest (kQi22 D tys P w1 (va_A wc H.size) a) (va_A wc H.size)) (hB0 : kX D A0 ws X H) (hS : va_S A0 H0 H locs) (hA : ∀ q : Nat, H0.size ≤ q → A0 q) (isC : List Nat) (hC : isC.map (fun i => ws[i]?) = wc.map some)
    (hf : ∀ (x0 : α0) (x1 : α1) (x2 : α2) (x3 : α3) (x4 : α4) (x5 : α5) (x6 : α6) (x7 : α7) (x8 : α8) (x9 : α9) (x10 : α10) (x11 : α11) (x12 : α12) (x13 : α13) (x14 : α14) (x15 : α15) (x16 : α16) (x17 : α17) (x18 : α18) (x19 : α19) (x20 : α20) (x21 : α21), (w1 x0 x1 x2 x3 x4 x5 x6 x7 x8 x9 x10 x11 x12 x13 x14 x15 x16 x17 x18 x19 x20 x21).map Prod.fst = wc.map Prod.fst)
    (kk : ∀ (r : Int32) (x0 : α0) (x1 : α1) (x2 : α2) (x3 : α3) (x4 : α4) (x5 : α5) (x6 : α6) (x7 : α7) (x8 : α8) (x9 : α9) (x10 : α10) (x11 : α11) (x12 : α12) (x13 : α13) (x14 : α14) (x15 : α15) (x16 : α16) (x17 : α17) (x18 : α18) (x19 : α19) (x20 : α20) (x21 : α21) (H1 : Heap) (locs1 : List Loc), P r x0 x1 x2 x3 x4 x5 x6 x7 x8 x9 x10 x11 x12 x13 x14 x15 x16 x17 x18 x19 x20 x21 → kX D A0 (updAll ws isC (w1 x0 x1 x2 x3 x4 x5 x6 x7 x8 x9 x10 x11 x12 x13 x14 x15 x16 x17 x18 x19 x20 x21)) X H1 → va_S A0 H0 H1 locs1 → W p l e R s m args below meth c H1 locs1 cells slots Q (F0 m (pc + 3) ls (.int r :: rest))) : W p l e R s m args below meth c H locs cells slots Q (F0 m pc ls st0) := by
  have hF := va_free hB0.2.1 hS hA isC hC
  refine va_calli hr hS (fun q _ h => hF q h) hF (fun r u t H1 locs1 ht hvm hw hB2 hz1 hk1 hS1 => ?_)
  obtain ⟨x0, x1, x2, x3, x4, x5, x6, x7, x8, x9, x10, x11, x12, x13, x14, x15, x16, x17, x18, x19, x20, x21⟩ := u
  obtain ⟨hP1, hK1, hD1⟩ := hB2
  rw [ht] at hP1
  exact kk r x0 x1 x2 x3 x4 x5 x6 x7 x8 x9 x10 x11 x12 x13 x14 x15 x16 x17 x18 x19 x20 x21 H1 locs1 hw (kJoinS hB0 isC hC (hf x0 x1 x2 x3 x4 x5 x6 x7 x8 x9 x10 x11 x12 x13 x14 x15 x16 x17 x18 x19 x20 x21) hk1 hP1) hS1
theorem kSi23 {α0 α1 α2 α3 α4 α5 α6 α7 α8 α9 α10 α11 α12 α13 α14 α15 α16 α17 α18 α19 α20 α21 α22 : Type} {p : Program} {l : Launch} {e : Env} {R : Room} {s : State} {m : MethodId} {args a : Array Value} {below : List Frame} {meth : Method} {c : Code} {H H0 : Heap} {locs : List Loc} {cells slots : Nat} {Q : State → Prop} {D : va_G} {tys : List (ClassId × FieldType)} {P : Int32 → α0 → α1 → α2 → α3 → α4 → α5 → α6 → α7 → α8 → α9 → α10 → α11 → α12 → α13 → α14 → α15 → α16 → α17 → α18 → α19 → α20 → α21 → α22 → Prop} {w1 : α0 → α1 → α2 → α3 → α4 → α5 → α6 → α7 → α8 → α9 → α10 → α11 → α12 → α13 → α14 → α15 → α16 → α17 → α18 → α19 → α20 → α21 → α22 → va_W} {A0 : Nat → Prop} {ws wc X : va_W} {pc : Nat} {ls : Array Slot} {st0 rest : List Value}
    (hr : va_Run p l e R s m args below meth c H locs cells slots 0 0 (F0 m pc ls st0) rest (kQi23 D tys P w1 (va_A wc H.size) a) (va_A wc H.size)) (hB0 : kX D A0 ws X H) (hS : va_S A0 H0 H locs) (hA : ∀ q : Nat, H0.size ≤ q → A0 q) (isC : List Nat) (hC : isC.map (fun i => ws[i]?) = wc.map some)
    (hf : ∀ (x0 : α0) (x1 : α1) (x2 : α2) (x3 : α3) (x4 : α4) (x5 : α5) (x6 : α6) (x7 : α7) (x8 : α8) (x9 : α9) (x10 : α10) (x11 : α11) (x12 : α12) (x13 : α13) (x14 : α14) (x15 : α15) (x16 : α16) (x17 : α17) (x18 : α18) (x19 : α19) (x20 : α20) (x21 : α21) (x22 : α22), (w1 x0 x1 x2 x3 x4 x5 x6 x7 x8 x9 x10 x11 x12 x13 x14 x15 x16 x17 x18 x19 x20 x21 x22).map Prod.fst = wc.map Prod.fst)
    (kk : ∀ (r : Int32) (x0 : α0) (x1 : α1) (x2 : α2) (x3 : α3) (x4 : α4) (x5 : α5) (x6 : α6) (x7 : α7) (x8 : α8) (x9 : α9) (x10 : α10) (x11 : α11) (x12 : α12) (x13 : α13) (x14 : α14) (x15 : α15) (x16 : α16) (x17 : α17) (x18 : α18) (x19 : α19) (x20 : α20) (x21 : α21) (x22 : α22) (H1 : Heap) (locs1 : List Loc), P r x0 x1 x2 x3 x4 x5 x6 x7 x8 x9 x10 x11 x12 x13 x14 x15 x16 x17 x18 x19 x20 x21 x22 → kX D A0 (updAll ws isC (w1 x0 x1 x2 x3 x4 x5 x6 x7 x8 x9 x10 x11 x12 x13 x14 x15 x16 x17 x18 x19 x20 x21 x22)) X H1 → va_S A0 H0 H1 locs1 → W p l e R s m args below meth c H1 locs1 cells slots Q (F0 m (pc + 3) ls (.int r :: rest))) : W p l e R s m args below meth c H locs cells slots Q (F0 m pc ls st0) := by
  have hF := va_free hB0.2.1 hS hA isC hC
  refine va_calli hr hS (fun q _ h => hF q h) hF (fun r u t H1 locs1 ht hvm hw hB2 hz1 hk1 hS1 => ?_)
  obtain ⟨x0, x1, x2, x3, x4, x5, x6, x7, x8, x9, x10, x11, x12, x13, x14, x15, x16, x17, x18, x19, x20, x21, x22⟩ := u
  obtain ⟨hP1, hK1, hD1⟩ := hB2
  rw [ht] at hP1
  exact kk r x0 x1 x2 x3 x4 x5 x6 x7 x8 x9 x10 x11 x12 x13 x14 x15 x16 x17 x18 x19 x20 x21 x22 H1 locs1 hw (kJoinS hB0 isC hC (hf x0 x1 x2 x3 x4 x5 x6 x7 x8 x9 x10 x11 x12 x13 x14 x15 x16 x17 x18 x19 x20 x21 x22) hk1 hP1) hS1
theorem kSi24 {α0 α1 α2 α3 α4 α5 α6 α7 α8 α9 α10 α11 α12 α13 α14 α15 α16 α17 α18 α19 α20 α21 α22 α23 : Type} {p : Program} {l : Launch} {e : Env} {R : Room} {s : State} {m : MethodId} {args a : Array Value} {below : List Frame} {meth : Method} {c : Code} {H H0 : Heap} {locs : List Loc} {cells slots : Nat} {Q : State → Prop} {D : va_G} {tys : List (ClassId × FieldType)} {P : Int32 → α0 → α1 → α2 → α3 → α4 → α5 → α6 → α7 → α8 → α9 → α10 → α11 → α12 → α13 → α14 → α15 → α16 → α17 → α18 → α19 → α20 → α21 → α22 → α23 → Prop} {w1 : α0 → α1 → α2 → α3 → α4 → α5 → α6 → α7 → α8 → α9 → α10 → α11 → α12 → α13 → α14 → α15 → α16 → α17 → α18 → α19 → α20 → α21 → α22 → α23 → va_W} {A0 : Nat → Prop} {ws wc X : va_W} {pc : Nat} {ls : Array Slot} {st0 rest : List Value}
    (hr : va_Run p l e R s m args below meth c H locs cells slots 0 0 (F0 m pc ls st0) rest (kQi24 D tys P w1 (va_A wc H.size) a) (va_A wc H.size)) (hB0 : kX D A0 ws X H) (hS : va_S A0 H0 H locs) (hA : ∀ q : Nat, H0.size ≤ q → A0 q) (isC : List Nat) (hC : isC.map (fun i => ws[i]?) = wc.map some)
    (hf : ∀ (x0 : α0) (x1 : α1) (x2 : α2) (x3 : α3) (x4 : α4) (x5 : α5) (x6 : α6) (x7 : α7) (x8 : α8) (x9 : α9) (x10 : α10) (x11 : α11) (x12 : α12) (x13 : α13) (x14 : α14) (x15 : α15) (x16 : α16) (x17 : α17) (x18 : α18) (x19 : α19) (x20 : α20) (x21 : α21) (x22 : α22) (x23 : α23), (w1 x0 x1 x2 x3 x4 x5 x6 x7 x8 x9 x10 x11 x12 x13 x14 x15 x16 x17 x18 x19 x20 x21 x22 x23).map Prod.fst = wc.map Prod.fst)
    (kk : ∀ (r : Int32) (x0 : α0) (x1 : α1) (x2 : α2) (x3 : α3) (x4 : α4) (x5 : α5) (x6 : α6) (x7 : α7) (x8 : α8) (x9 : α9) (x10 : α10) (x11 : α11) (x12 : α12) (x13 : α13) (x14 : α14) (x15 : α15) (x16 : α16) (x17 : α17) (x18 : α18) (x19 : α19) (x20 : α20) (x21 : α21) (x22 : α22) (x23 : α23) (H1 : Heap) (locs1 : List Loc), P r x0 x1 x2 x3 x4 x5 x6 x7 x8 x9 x10 x11 x12 x13 x14 x15 x16 x17 x18 x19 x20 x21 x22 x23 → kX D A0 (updAll ws isC (w1 x0 x1 x2 x3 x4 x5 x6 x7 x8 x9 x10 x11 x12 x13 x14 x15 x16 x17 x18 x19 x20 x21 x22 x23)) X H1 → va_S A0 H0 H1 locs1 → W p l e R s m args below meth c H1 locs1 cells slots Q (F0 m (pc + 3) ls (.int r :: rest))) : W p l e R s m args below meth c H locs cells slots Q (F0 m pc ls st0) := by
  have hF := va_free hB0.2.1 hS hA isC hC
  refine va_calli hr hS (fun q _ h => hF q h) hF (fun r u t H1 locs1 ht hvm hw hB2 hz1 hk1 hS1 => ?_)
  obtain ⟨x0, x1, x2, x3, x4, x5, x6, x7, x8, x9, x10, x11, x12, x13, x14, x15, x16, x17, x18, x19, x20, x21, x22, x23⟩ := u
  obtain ⟨hP1, hK1, hD1⟩ := hB2
  rw [ht] at hP1
  exact kk r x0 x1 x2 x3 x4 x5 x6 x7 x8 x9 x10 x11 x12 x13 x14 x15 x16 x17 x18 x19 x20 x21 x22 x23 H1 locs1 hw (kJoinS hB0 isC hC (hf x0 x1 x2 x3 x4 x5 x6 x7 x8 x9 x10 x11 x12 x13 x14 x15 x16 x17 x18 x19 x20 x21 x22 x23) hk1 hP1) hS1
theorem kSi25 {α0 α1 α2 α3 α4 α5 α6 α7 α8 α9 α10 α11 α12 α13 α14 α15 α16 α17 α18 α19 α20 α21 α22 α23 α24 : Type} {p : Program} {l : Launch} {e : Env} {R : Room} {s : State} {m : MethodId} {args a : Array Value} {below : List Frame} {meth : Method} {c : Code} {H H0 : Heap} {locs : List Loc} {cells slots : Nat} {Q : State → Prop} {D : va_G} {tys : List (ClassId × FieldType)} {P : Int32 → α0 → α1 → α2 → α3 → α4 → α5 → α6 → α7 → α8 → α9 → α10 → α11 → α12 → α13 → α14 → α15 → α16 → α17 → α18 → α19 → α20 → α21 → α22 → α23 → α24 → Prop} {w1 : α0 → α1 → α2 → α3 → α4 → α5 → α6 → α7 → α8 → α9 → α10 → α11 → α12 → α13 → α14 → α15 → α16 → α17 → α18 → α19 → α20 → α21 → α22 → α23 → α24 → va_W} {A0 : Nat → Prop} {ws wc X : va_W} {pc : Nat} {ls : Array Slot} {st0 rest : List Value}
    (hr : va_Run p l e R s m args below meth c H locs cells slots 0 0 (F0 m pc ls st0) rest (kQi25 D tys P w1 (va_A wc H.size) a) (va_A wc H.size)) (hB0 : kX D A0 ws X H) (hS : va_S A0 H0 H locs) (hA : ∀ q : Nat, H0.size ≤ q → A0 q) (isC : List Nat) (hC : isC.map (fun i => ws[i]?) = wc.map some)
    (hf : ∀ (x0 : α0) (x1 : α1) (x2 : α2) (x3 : α3) (x4 : α4) (x5 : α5) (x6 : α6) (x7 : α7) (x8 : α8) (x9 : α9) (x10 : α10) (x11 : α11) (x12 : α12) (x13 : α13) (x14 : α14) (x15 : α15) (x16 : α16) (x17 : α17) (x18 : α18) (x19 : α19) (x20 : α20) (x21 : α21) (x22 : α22) (x23 : α23) (x24 : α24), (w1 x0 x1 x2 x3 x4 x5 x6 x7 x8 x9 x10 x11 x12 x13 x14 x15 x16 x17 x18 x19 x20 x21 x22 x23 x24).map Prod.fst = wc.map Prod.fst)
    (kk : ∀ (r : Int32) (x0 : α0) (x1 : α1) (x2 : α2) (x3 : α3) (x4 : α4) (x5 : α5) (x6 : α6) (x7 : α7) (x8 : α8) (x9 : α9) (x10 : α10) (x11 : α11) (x12 : α12) (x13 : α13) (x14 : α14) (x15 : α15) (x16 : α16) (x17 : α17) (x18 : α18) (x19 : α19) (x20 : α20) (x21 : α21) (x22 : α22) (x23 : α23) (x24 : α24) (H1 : Heap) (locs1 : List Loc), P r x0 x1 x2 x3 x4 x5 x6 x7 x8 x9 x10 x11 x12 x13 x14 x15 x16 x17 x18 x19 x20 x21 x22 x23 x24 → kX D A0 (updAll ws isC (w1 x0 x1 x2 x3 x4 x5 x6 x7 x8 x9 x10 x11 x12 x13 x14 x15 x16 x17 x18 x19 x20 x21 x22 x23 x24)) X H1 → va_S A0 H0 H1 locs1 → W p l e R s m args below meth c H1 locs1 cells slots Q (F0 m (pc + 3) ls (.int r :: rest))) : W p l e R s m args below meth c H locs cells slots Q (F0 m pc ls st0) := by
  have hF := va_free hB0.2.1 hS hA isC hC
  refine va_calli hr hS (fun q _ h => hF q h) hF (fun r u t H1 locs1 ht hvm hw hB2 hz1 hk1 hS1 => ?_)
  obtain ⟨x0, x1, x2, x3, x4, x5, x6, x7, x8, x9, x10, x11, x12, x13, x14, x15, x16, x17, x18, x19, x20, x21, x22, x23, x24⟩ := u
  obtain ⟨hP1, hK1, hD1⟩ := hB2
  rw [ht] at hP1
  exact kk r x0 x1 x2 x3 x4 x5 x6 x7 x8 x9 x10 x11 x12 x13 x14 x15 x16 x17 x18 x19 x20 x21 x22 x23 x24 H1 locs1 hw (kJoinS hB0 isC hC (hf x0 x1 x2 x3 x4 x5 x6 x7 x8 x9 x10 x11 x12 x13 x14 x15 x16 x17 x18 x19 x20 x21 x22 x23 x24) hk1 hP1) hS1
theorem kTi15 {α0 α1 α2 α3 α4 α5 α6 α7 α8 α9 α10 α11 α12 α13 α14 : Type} {p : Program} {l : Launch} {e : Env} {R : Room} {s : State} {m : MethodId} {args a : Array Value} {below : List Frame} {meth : Method} {c : Code} {H H0 : Heap} {locs : List Loc} {cells slots mc ms : Nat} {Q : State → Prop} {D : va_G} {tys : List (ClassId × FieldType)} {P : Int32 → α0 → α1 → α2 → α3 → α4 → α5 → α6 → α7 → α8 → α9 → α10 → α11 → α12 → α13 → α14 → Prop} (wa wb : α0 → α1 → α2 → α3 → α4 → α5 → α6 → α7 → α8 → α9 → α10 → α11 → α12 → α13 → α14 → va_W) {A0 : Nat → Prop} {ws wc X : va_W} {pc : Nat} {ls : Array Slot} {st0 rest : List Value}
    (hr : va_Run p l e R s m args below meth c H locs cells slots mc ms (F0 m pc ls st0) rest (kQi15 D tys P (fun x0 x1 x2 x3 x4 x5 x6 x7 x8 x9 x10 x11 x12 x13 x14 => wa x0 x1 x2 x3 x4 x5 x6 x7 x8 x9 x10 x11 x12 x13 x14 ++ wb x0 x1 x2 x3 x4 x5 x6 x7 x8 x9 x10 x11 x12 x13 x14) (va_A wc H.size) a) (va_A wc H.size)) (hB0 : kX D A0 ws X H) (hS : va_S A0 H0 H locs) (hA : ∀ q : Nat, H0.size ≤ q → A0 q) (isC : List Nat) (hC : isC.map (fun i => ws[i]?) = wc.map some)
    (hf : ∀ (x0 : α0) (x1 : α1) (x2 : α2) (x3 : α3) (x4 : α4) (x5 : α5) (x6 : α6) (x7 : α7) (x8 : α8) (x9 : α9) (x10 : α10) (x11 : α11) (x12 : α12) (x13 : α13) (x14 : α14), (wa x0 x1 x2 x3 x4 x5 x6 x7 x8 x9 x10 x11 x12 x13 x14).map Prod.fst = wc.map Prod.fst)
    (kk : ∀ (r : Int32) (x0 : α0) (x1 : α1) (x2 : α2) (x3 : α3) (x4 : α4) (x5 : α5) (x6 : α6) (x7 : α7) (x8 : α8) (x9 : α9) (x10 : α10) (x11 : α11) (x12 : α12) (x13 : α13) (x14 : α14) (H1 : Heap) (locs1 : List Loc), P r x0 x1 x2 x3 x4 x5 x6 x7 x8 x9 x10 x11 x12 x13 x14 → kX D A0 (updAll ws isC (wa x0 x1 x2 x3 x4 x5 x6 x7 x8 x9 x10 x11 x12 x13 x14)) (wb x0 x1 x2 x3 x4 x5 x6 x7 x8 x9 x10 x11 x12 x13 x14 ++ X) H1 → va_S A0 H0 H1 locs1 → W p l e R s m args below meth c H1 locs1 (cells + mc) (slots + ms) Q (F0 m (pc + 3) ls (.int r :: rest))) : W p l e R s m args below meth c H locs cells slots Q (F0 m pc ls st0) := by
  have hF := va_free hB0.2.1 hS hA isC hC
  refine va_calli hr hS (fun q _ h => hF q h) hF (fun r u t H1 locs1 ht hvm hw hB2 hz1 hk1 hS1 => ?_)
  obtain ⟨x0, x1, x2, x3, x4, x5, x6, x7, x8, x9, x10, x11, x12, x13, x14⟩ := u
  obtain ⟨hP1, hK1, hD1⟩ := hB2
  rw [ht] at hP1
  exact kk r x0 x1 x2 x3 x4 x5 x6 x7 x8 x9 x10 x11 x12 x13 x14 H1 locs1 hw (kJoinT hB0 isC hC (hf x0 x1 x2 x3 x4 x5 x6 x7 x8 x9 x10 x11 x12 x13 x14) hk1 hF hz1 hP1 hD1) hS1
theorem kTi16 {α0 α1 α2 α3 α4 α5 α6 α7 α8 α9 α10 α11 α12 α13 α14 α15 : Type} {p : Program} {l : Launch} {e : Env} {R : Room} {s : State} {m : MethodId} {args a : Array Value} {below : List Frame} {meth : Method} {c : Code} {H H0 : Heap} {locs : List Loc} {cells slots mc ms : Nat} {Q : State → Prop} {D : va_G} {tys : List (ClassId × FieldType)} {P : Int32 → α0 → α1 → α2 → α3 → α4 → α5 → α6 → α7 → α8 → α9 → α10 → α11 → α12 → α13 → α14 → α15 → Prop} (wa wb : α0 → α1 → α2 → α3 → α4 → α5 → α6 → α7 → α8 → α9 → α10 → α11 → α12 → α13 → α14 → α15 → va_W) {A0 : Nat → Prop} {ws wc X : va_W} {pc : Nat} {ls : Array Slot} {st0 rest : List Value}
    (hr : va_Run p l e R s m args below meth c H locs cells slots mc ms (F0 m pc ls st0) rest (kQi16 D tys P (fun x0 x1 x2 x3 x4 x5 x6 x7 x8 x9 x10 x11 x12 x13 x14 x15 => wa x0 x1 x2 x3 x4 x5 x6 x7 x8 x9 x10 x11 x12 x13 x14 x15 ++ wb x0 x1 x2 x3 x4 x5 x6 x7 x8 x9 x10 x11 x12 x13 x14 x15) (va_A wc H.size) a) (va_A wc H.size)) (hB0 : kX D A0 ws X H) (hS : va_S A0 H0 H locs) (hA : ∀ q : Nat, H0.size ≤ q → A0 q) (isC : List Nat) (hC : isC.map (fun i => ws[i]?) = wc.map some)
    (hf : ∀ (x0 : α0) (x1 : α1) (x2 : α2) (x3 : α3) (x4 : α4) (x5 : α5) (x6 : α6) (x7 : α7) (x8 : α8) (x9 : α9) (x10 : α10) (x11 : α11) (x12 : α12) (x13 : α13) (x14 : α14) (x15 : α15), (wa x0 x1 x2 x3 x4 x5 x6 x7 x8 x9 x10 x11 x12 x13 x14 x15).map Prod.fst = wc.map Prod.fst)
    (kk : ∀ (r : Int32) (x0 : α0) (x1 : α1) (x2 : α2) (x3 : α3) (x4 : α4) (x5 : α5) (x6 : α6) (x7 : α7) (x8 : α8) (x9 : α9) (x10 : α10) (x11 : α11) (x12 : α12) (x13 : α13) (x14 : α14) (x15 : α15) (H1 : Heap) (locs1 : List Loc), P r x0 x1 x2 x3 x4 x5 x6 x7 x8 x9 x10 x11 x12 x13 x14 x15 → kX D A0 (updAll ws isC (wa x0 x1 x2 x3 x4 x5 x6 x7 x8 x9 x10 x11 x12 x13 x14 x15)) (wb x0 x1 x2 x3 x4 x5 x6 x7 x8 x9 x10 x11 x12 x13 x14 x15 ++ X) H1 → va_S A0 H0 H1 locs1 → W p l e R s m args below meth c H1 locs1 (cells + mc) (slots + ms) Q (F0 m (pc + 3) ls (.int r :: rest))) : W p l e R s m args below meth c H locs cells slots Q (F0 m pc ls st0) := by
  have hF := va_free hB0.2.1 hS hA isC hC
  refine va_calli hr hS (fun q _ h => hF q h) hF (fun r u t H1 locs1 ht hvm hw hB2 hz1 hk1 hS1 => ?_)
  obtain ⟨x0, x1, x2, x3, x4, x5, x6, x7, x8, x9, x10, x11, x12, x13, x14, x15⟩ := u
  obtain ⟨hP1, hK1, hD1⟩ := hB2
  rw [ht] at hP1
  exact kk r x0 x1 x2 x3 x4 x5 x6 x7 x8 x9 x10 x11 x12 x13 x14 x15 H1 locs1 hw (kJoinT hB0 isC hC (hf x0 x1 x2 x3 x4 x5 x6 x7 x8 x9 x10 x11 x12 x13 x14 x15) hk1 hF hz1 hP1 hD1) hS1
theorem kTi17 {α0 α1 α2 α3 α4 α5 α6 α7 α8 α9 α10 α11 α12 α13 α14 α15 α16 : Type} {p : Program} {l : Launch} {e : Env} {R : Room} {s : State} {m : MethodId} {args a : Array Value} {below : List Frame} {meth : Method} {c : Code} {H H0 : Heap} {locs : List Loc} {cells slots mc ms : Nat} {Q : State → Prop} {D : va_G} {tys : List (ClassId × FieldType)} {P : Int32 → α0 → α1 → α2 → α3 → α4 → α5 → α6 → α7 → α8 → α9 → α10 → α11 → α12 → α13 → α14 → α15 → α16 → Prop} (wa wb : α0 → α1 → α2 → α3 → α4 → α5 → α6 → α7 → α8 → α9 → α10 → α11 → α12 → α13 → α14 → α15 → α16 → va_W) {A0 : Nat → Prop} {ws wc X : va_W} {pc : Nat} {ls : Array Slot} {st0 rest : List Value}
    (hr : va_Run p l e R s m args below meth c H locs cells slots mc ms (F0 m pc ls st0) rest (kQi17 D tys P (fun x0 x1 x2 x3 x4 x5 x6 x7 x8 x9 x10 x11 x12 x13 x14 x15 x16 => wa x0 x1 x2 x3 x4 x5 x6 x7 x8 x9 x10 x11 x12 x13 x14 x15 x16 ++ wb x0 x1 x2 x3 x4 x5 x6 x7 x8 x9 x10 x11 x12 x13 x14 x15 x16) (va_A wc H.size) a) (va_A wc H.size)) (hB0 : kX D A0 ws X H) (hS : va_S A0 H0 H locs) (hA : ∀ q : Nat, H0.size ≤ q → A0 q) (isC : List Nat) (hC : isC.map (fun i => ws[i]?) = wc.map some)
    (hf : ∀ (x0 : α0) (x1 : α1) (x2 : α2) (x3 : α3) (x4 : α4) (x5 : α5) (x6 : α6) (x7 : α7) (x8 : α8) (x9 : α9) (x10 : α10) (x11 : α11) (x12 : α12) (x13 : α13) (x14 : α14) (x15 : α15) (x16 : α16), (wa x0 x1 x2 x3 x4 x5 x6 x7 x8 x9 x10 x11 x12 x13 x14 x15 x16).map Prod.fst = wc.map Prod.fst)
    (kk : ∀ (r : Int32) (x0 : α0) (x1 : α1) (x2 : α2) (x3 : α3) (x4 : α4) (x5 : α5) (x6 : α6) (x7 : α7) (x8 : α8) (x9 : α9) (x10 : α10) (x11 : α11) (x12 : α12) (x13 : α13) (x14 : α14) (x15 : α15) (x16 : α16) (H1 : Heap) (locs1 : List Loc), P r x0 x1 x2 x3 x4 x5 x6 x7 x8 x9 x10 x11 x12 x13 x14 x15 x16 → kX D A0 (updAll ws isC (wa x0 x1 x2 x3 x4 x5 x6 x7 x8 x9 x10 x11 x12 x13 x14 x15 x16)) (wb x0 x1 x2 x3 x4 x5 x6 x7 x8 x9 x10 x11 x12 x13 x14 x15 x16 ++ X) H1 → va_S A0 H0 H1 locs1 → W p l e R s m args below meth c H1 locs1 (cells + mc) (slots + ms) Q (F0 m (pc + 3) ls (.int r :: rest))) : W p l e R s m args below meth c H locs cells slots Q (F0 m pc ls st0) := by
  have hF := va_free hB0.2.1 hS hA isC hC
  refine va_calli hr hS (fun q _ h => hF q h) hF (fun r u t H1 locs1 ht hvm hw hB2 hz1 hk1 hS1 => ?_)
  obtain ⟨x0, x1, x2, x3, x4, x5, x6, x7, x8, x9, x10, x11, x12, x13, x14, x15, x16⟩ := u
  obtain ⟨hP1, hK1, hD1⟩ := hB2
  rw [ht] at hP1
  exact kk r x0 x1 x2 x3 x4 x5 x6 x7 x8 x9 x10 x11 x12 x13 x14 x15 x16 H1 locs1 hw (kJoinT hB0 isC hC (hf x0 x1 x2 x3 x4 x5 x6 x7 x8 x9 x10 x11 x12 x13 x14 x15 x16) hk1 hF hz1 hP1 hD1) hS1
theorem kTi18 {α0 α1 α2 α3 α4 α5 α6 α7 α8 α9 α10 α11 α12 α13 α14 α15 α16 α17 : Type} {p : Program} {l : Launch} {e : Env} {R : Room} {s : State} {m : MethodId} {args a : Array Value} {below : List Frame} {meth : Method} {c : Code} {H H0 : Heap} {locs : List Loc} {cells slots mc ms : Nat} {Q : State → Prop} {D : va_G} {tys : List (ClassId × FieldType)} {P : Int32 → α0 → α1 → α2 → α3 → α4 → α5 → α6 → α7 → α8 → α9 → α10 → α11 → α12 → α13 → α14 → α15 → α16 → α17 → Prop} (wa wb : α0 → α1 → α2 → α3 → α4 → α5 → α6 → α7 → α8 → α9 → α10 → α11 → α12 → α13 → α14 → α15 → α16 → α17 → va_W) {A0 : Nat → Prop} {ws wc X : va_W} {pc : Nat} {ls : Array Slot} {st0 rest : List Value}
    (hr : va_Run p l e R s m args below meth c H locs cells slots mc ms (F0 m pc ls st0) rest (kQi18 D tys P (fun x0 x1 x2 x3 x4 x5 x6 x7 x8 x9 x10 x11 x12 x13 x14 x15 x16 x17 => wa x0 x1 x2 x3 x4 x5 x6 x7 x8 x9 x10 x11 x12 x13 x14 x15 x16 x17 ++ wb x0 x1 x2 x3 x4 x5 x6 x7 x8 x9 x10 x11 x12 x13 x14 x15 x16 x17) (va_A wc H.size) a) (va_A wc H.size)) (hB0 : kX D A0 ws X H) (hS : va_S A0 H0 H locs) (hA : ∀ q : Nat, H0.size ≤ q → A0 q) (isC : List Nat) (hC : isC.map (fun i => ws[i]?) = wc.map some)
    (hf : ∀ (x0 : α0) (x1 : α1) (x2 : α2) (x3 : α3) (x4 : α4) (x5 : α5) (x6 : α6) (x7 : α7) (x8 : α8) (x9 : α9) (x10 : α10) (x11 : α11) (x12 : α12) (x13 : α13) (x14 : α14) (x15 : α15) (x16 : α16) (x17 : α17), (wa x0 x1 x2 x3 x4 x5 x6 x7 x8 x9 x10 x11 x12 x13 x14 x15 x16 x17).map Prod.fst = wc.map Prod.fst)
    (kk : ∀ (r : Int32) (x0 : α0) (x1 : α1) (x2 : α2) (x3 : α3) (x4 : α4) (x5 : α5) (x6 : α6) (x7 : α7) (x8 : α8) (x9 : α9) (x10 : α10) (x11 : α11) (x12 : α12) (x13 : α13) (x14 : α14) (x15 : α15) (x16 : α16) (x17 : α17) (H1 : Heap) (locs1 : List Loc), P r x0 x1 x2 x3 x4 x5 x6 x7 x8 x9 x10 x11 x12 x13 x14 x15 x16 x17 → kX D A0 (updAll ws isC (wa x0 x1 x2 x3 x4 x5 x6 x7 x8 x9 x10 x11 x12 x13 x14 x15 x16 x17)) (wb x0 x1 x2 x3 x4 x5 x6 x7 x8 x9 x10 x11 x12 x13 x14 x15 x16 x17 ++ X) H1 → va_S A0 H0 H1 locs1 → W p l e R s m args below meth c H1 locs1 (cells + mc) (slots + ms) Q (F0 m (pc + 3) ls (.int r :: rest))) : W p l e R s m args below meth c H locs cells slots Q (F0 m pc ls st0) := by
  have hF := va_free hB0.2.1 hS hA isC hC
  refine va_calli hr hS (fun q _ h => hF q h) hF (fun r u t H1 locs1 ht hvm hw hB2 hz1 hk1 hS1 => ?_)
  obtain ⟨x0, x1, x2, x3, x4, x5, x6, x7, x8, x9, x10, x11, x12, x13, x14, x15, x16, x17⟩ := u
  obtain ⟨hP1, hK1, hD1⟩ := hB2
  rw [ht] at hP1
  exact kk r x0 x1 x2 x3 x4 x5 x6 x7 x8 x9 x10 x11 x12 x13 x14 x15 x16 x17 H1 locs1 hw (kJoinT hB0 isC hC (hf x0 x1 x2 x3 x4 x5 x6 x7 x8 x9 x10 x11 x12 x13 x14 x15 x16 x17) hk1 hF hz1 hP1 hD1) hS1
theorem kTi19 {α0 α1 α2 α3 α4 α5 α6 α7 α8 α9 α10 α11 α12 α13 α14 α15 α16 α17 α18 : Type} {p : Program} {l : Launch} {e : Env} {R : Room} {s : State} {m : MethodId} {args a : Array Value} {below : List Frame} {meth : Method} {c : Code} {H H0 : Heap} {locs : List Loc} {cells slots mc ms : Nat} {Q : State → Prop} {D : va_G} {tys : List (ClassId × FieldType)} {P : Int32 → α0 → α1 → α2 → α3 → α4 → α5 → α6 → α7 → α8 → α9 → α10 → α11 → α12 → α13 → α14 → α15 → α16 → α17 → α18 → Prop} (wa wb : α0 → α1 → α2 → α3 → α4 → α5 → α6 → α7 → α8 → α9 → α10 → α11 → α12 → α13 → α14 → α15 → α16 → α17 → α18 → va_W) {A0 : Nat → Prop} {ws wc X : va_W} {pc : Nat} {ls : Array Slot} {st0 rest : List Value}
    (hr : va_Run p l e R s m args below meth c H locs cells slots mc ms (F0 m pc ls st0) rest (kQi19 D tys P (fun x0 x1 x2 x3 x4 x5 x6 x7 x8 x9 x10 x11 x12 x13 x14 x15 x16 x17 x18 => wa x0 x1 x2 x3 x4 x5 x6 x7 x8 x9 x10 x11 x12 x13 x14 x15 x16 x17 x18 ++ wb x0 x1 x2 x3 x4 x5 x6 x7 x8 x9 x10 x11 x12 x13 x14 x15 x16 x17 x18) (va_A wc H.size) a) (va_A wc H.size)) (hB0 : kX D A0 ws X H) (hS : va_S A0 H0 H locs) (hA : ∀ q : Nat, H0.size ≤ q → A0 q) (isC : List Nat) (hC : isC.map (fun i => ws[i]?) = wc.map some)
    (hf : ∀ (x0 : α0) (x1 : α1) (x2 : α2) (x3 : α3) (x4 : α4) (x5 : α5) (x6 : α6) (x7 : α7) (x8 : α8) (x9 : α9) (x10 : α10) (x11 : α11) (x12 : α12) (x13 : α13) (x14 : α14) (x15 : α15) (x16 : α16) (x17 : α17) (x18 : α18), (wa x0 x1 x2 x3 x4 x5 x6 x7 x8 x9 x10 x11 x12 x13 x14 x15 x16 x17 x18).map Prod.fst = wc.map Prod.fst)
    (kk : ∀ (r : Int32) (x0 : α0) (x1 : α1) (x2 : α2) (x3 : α3) (x4 : α4) (x5 : α5) (x6 : α6) (x7 : α7) (x8 : α8) (x9 : α9) (x10 : α10) (x11 : α11) (x12 : α12) (x13 : α13) (x14 : α14) (x15 : α15) (x16 : α16) (x17 : α17) (x18 : α18) (H1 : Heap) (locs1 : List Loc), P r x0 x1 x2 x3 x4 x5 x6 x7 x8 x9 x10 x11 x12 x13 x14 x15 x16 x17 x18 → kX D A0 (updAll ws isC (wa x0 x1 x2 x3 x4 x5 x6 x7 x8 x9 x10 x11 x12 x13 x14 x15 x16 x17 x18)) (wb x0 x1 x2 x3 x4 x5 x6 x7 x8 x9 x10 x11 x12 x13 x14 x15 x16 x17 x18 ++ X) H1 → va_S A0 H0 H1 locs1 → W p l e R s m args below meth c H1 locs1 (cells + mc) (slots + ms) Q (F0 m (pc + 3) ls (.int r :: rest))) : W p l e R s m args below meth c H locs cells slots Q (F0 m pc ls st0) := by
  have hF := va_free hB0.2.1 hS hA isC hC
  refine va_calli hr hS (fun q _ h => hF q h) hF (fun r u t H1 locs1 ht hvm hw hB2 hz1 hk1 hS1 => ?_)
  obtain ⟨x0, x1, x2, x3, x4, x5, x6, x7, x8, x9, x10, x11, x12, x13, x14, x15, x16, x17, x18⟩ := u
  obtain ⟨hP1, hK1, hD1⟩ := hB2
  rw [ht] at hP1
  exact kk r x0 x1 x2 x3 x4 x5 x6 x7 x8 x9 x10 x11 x12 x13 x14 x15 x16 x17 x18 H1 locs1 hw (kJoinT hB0 isC hC (hf x0 x1 x2 x3 x4 x5 x6 x7 x8 x9 x10 x11 x12 x13 x14 x15 x16 x17 x18) hk1 hF hz1 hP1 hD1) hS1
theorem kTi20 {α0 α1 α2 α3 α4 α5 α6 α7 α8 α9 α10 α11 α12 α13 α14 α15 α16 α17 α18 α19 : Type} {p : Program} {l : Launch} {e : Env} {R : Room} {s : State} {m : MethodId} {args a : Array Value} {below : List Frame} {meth : Method} {c : Code} {H H0 : Heap} {locs : List Loc} {cells slots mc ms : Nat} {Q : State → Prop} {D : va_G} {tys : List (ClassId × FieldType)} {P : Int32 → α0 → α1 → α2 → α3 → α4 → α5 → α6 → α7 → α8 → α9 → α10 → α11 → α12 → α13 → α14 → α15 → α16 → α17 → α18 → α19 → Prop} (wa wb : α0 → α1 → α2 → α3 → α4 → α5 → α6 → α7 → α8 → α9 → α10 → α11 → α12 → α13 → α14 → α15 → α16 → α17 → α18 → α19 → va_W) {A0 : Nat → Prop} {ws wc X : va_W} {pc : Nat} {ls : Array Slot} {st0 rest : List Value}
    (hr : va_Run p l e R s m args below meth c H locs cells slots mc ms (F0 m pc ls st0) rest (kQi20 D tys P (fun x0 x1 x2 x3 x4 x5 x6 x7 x8 x9 x10 x11 x12 x13 x14 x15 x16 x17 x18 x19 => wa x0 x1 x2 x3 x4 x5 x6 x7 x8 x9 x10 x11 x12 x13 x14 x15 x16 x17 x18 x19 ++ wb x0 x1 x2 x3 x4 x5 x6 x7 x8 x9 x10 x11 x12 x13 x14 x15 x16 x17 x18 x19) (va_A wc H.size) a) (va_A wc H.size)) (hB0 : kX D A0 ws X H) (hS : va_S A0 H0 H locs) (hA : ∀ q : Nat, H0.size ≤ q → A0 q) (isC : List Nat) (hC : isC.map (fun i => ws[i]?) = wc.map some)
    (hf : ∀ (x0 : α0) (x1 : α1) (x2 : α2) (x3 : α3) (x4 : α4) (x5 : α5) (x6 : α6) (x7 : α7) (x8 : α8) (x9 : α9) (x10 : α10) (x11 : α11) (x12 : α12) (x13 : α13) (x14 : α14) (x15 : α15) (x16 : α16) (x17 : α17) (x18 : α18) (x19 : α19), (wa x0 x1 x2 x3 x4 x5 x6 x7 x8 x9 x10 x11 x12 x13 x14 x15 x16 x17 x18 x19).map Prod.fst = wc.map Prod.fst)
    (kk : ∀ (r : Int32) (x0 : α0) (x1 : α1) (x2 : α2) (x3 : α3) (x4 : α4) (x5 : α5) (x6 : α6) (x7 : α7) (x8 : α8) (x9 : α9) (x10 : α10) (x11 : α11) (x12 : α12) (x13 : α13) (x14 : α14) (x15 : α15) (x16 : α16) (x17 : α17) (x18 : α18) (x19 : α19) (H1 : Heap) (locs1 : List Loc), P r x0 x1 x2 x3 x4 x5 x6 x7 x8 x9 x10 x11 x12 x13 x14 x15 x16 x17 x18 x19 → kX D A0 (updAll ws isC (wa x0 x1 x2 x3 x4 x5 x6 x7 x8 x9 x10 x11 x12 x13 x14 x15 x16 x17 x18 x19)) (wb x0 x1 x2 x3 x4 x5 x6 x7 x8 x9 x10 x11 x12 x13 x14 x15 x16 x17 x18 x19 ++ X) H1 → va_S A0 H0 H1 locs1 → W p l e R s m args below meth c H1 locs1 (cells + mc) (slots + ms) Q (F0 m (pc + 3) ls (.int r :: rest))) : W p l e R s m args below meth c H locs cells slots Q (F0 m pc ls st0) := by
  have hF := va_free hB0.2.1 hS hA isC hC
  refine va_calli hr hS (fun q _ h => hF q h) hF (fun r u t H1 locs1 ht hvm hw hB2 hz1 hk1 hS1 => ?_)
  obtain ⟨x0, x1, x2, x3, x4, x5, x6, x7, x8, x9, x10, x11, x12, x13, x14, x15, x16, x17, x18, x19⟩ := u
  obtain ⟨hP1, hK1, hD1⟩ := hB2
  rw [ht] at hP1
  exact kk r x0 x1 x2 x3 x4 x5 x6 x7 x8 x9 x10 x11 x12 x13 x14 x15 x16 x17 x18 x19 H1 locs1 hw (kJoinT hB0 isC hC (hf x0 x1 x2 x3 x4 x5 x6 x7 x8 x9 x10 x11 x12 x13 x14 x15 x16 x17 x18 x19) hk1 hF hz1 hP1 hD1) hS1
