theorem kX.mid {D : va_G} {A : Nat → Prop} {a b c d : va_W} {H : Heap} (h : kX D A a (b ++ (c ++ d)) H) : kX D A a (c ++ (b ++ d)) H := by
  unfold kX at h ⊢
  rw [vaP_app, vaP_app, vaD_app, vaD_app] at h ⊢
  simp only [List.mem_append] at h ⊢
  obtain ⟨h1, h2, ⟨h3, h4, h5⟩, ⟨h6, ⟨h7, h8, h9⟩, h10⟩, h11⟩ := h
  exact ⟨h1, h2, ⟨h4, h3, h5⟩, ⟨h7, ⟨h6, h8, fun p hp q hq => h10 p hp q (Or.inr hq)⟩, fun p hp q hq => hq.elim (fun hq e => h10 q hq p (Or.inl hp) e.symm) (h9 p hp q)⟩, fun p hp q hq => hq.elim (fun z => h11 p hp q (Or.inr (Or.inl z))) (fun z => z.elim (fun z => h11 p hp q (Or.inl z)) (fun z => h11 p hp q (Or.inr (Or.inr z))))⟩
theorem kX.swapIn {D : va_G} {A : Nat → Prop} {a b c d : va_W} {H : Heap} (h : kX D A a (b ++ (c ++ d)) H) : kX D A a (b ++ (d ++ c)) H :=
  kX.assoc.mpr (kX.swap (kX.assoc.mp h))
theorem kX.front0 {D : va_G} {A : Nat → Prop} {a m w k : va_W} {H : Heap} (h : kX D A a (m ++ (w ++ k)) H) : kX D A (a ++ w) (m ++ k) H := kX.assoc.mp h.mid
theorem kX.front1 {D : va_G} {A : Nat → Prop} {a m w k : va_W} {H : Heap} (h : kX D A a (m ++ (k ++ w)) H) : kX D A (a ++ w) (m ++ k) H := kX.front0 h.swapIn
theorem kX.rear0 {D : va_G} {A : Nat → Prop} {a m w k : va_W} {H : Heap} (h : kX D A (a ++ w) (m ++ k) H) : kX D A a (m ++ (w ++ k)) H := (kX.assoc.mpr h).mid
theorem kX.rear1 {D : va_G} {A : Nat → Prop} {a m w k : va_W} {H : Heap} (h : kX D A (a ++ w) (m ++ k) H) : kX D A a (m ++ (k ++ w)) H := h.rear0.swapIn
theorem kX.backN0 {D : va_G} {A : Nat → Prop} {a m w k : va_W} {H : Heap} (h : kX D A a (m ++ (w ++ ([] ++ k))) H) : kX D A a (m ++ (w ++ k)) H := h
theorem kX.backN1 {D : va_G} {A : Nat → Prop} {a m w k : va_W} {H : Heap} (h : kX D A a (m ++ (w ++ (k ++ []))) H) : kX D A a (m ++ (k ++ w)) H := by
  rw [List.append_nil] at h
  exact h.swapIn
