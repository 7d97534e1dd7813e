theorem k01 {p : Int32} (h : ¬ (¬ p < 0 → ¬ p < 2)) : p = 0 ∨ p = 1 := by
  have h1 : ¬ p < 0 := fun q => h (fun z => absurd q z)
  have h2 : p < 2 := by
    rcases Classical.em (p < 2) with q | q
    · exact q
    · exact absurd (fun _ => q) h
  rw [Int32.lt_iff_toInt_lt] at h1 h2
  have e0 : (0 : Int32).toInt = 0 := by decide
  have e1 : (1 : Int32).toInt = 1 := by decide
  have e2 : (2 : Int32).toInt = 2 := by decide
  rw [e0] at h1
  rw [e2] at h2
  rcases (show p.toInt = 0 ∨ p.toInt = 1 by omega) with q | q
  · exact Or.inl (Int32.toInt_inj.mp (by rw [q, e0]))
  · exact Or.inr (Int32.toInt_inj.mp (by rw [q, e1]))
def SAll : Prop := S_write ∧ S_wipe ∧ S_fault ∧ S_house ∧ S_about ∧ S_where ∧ S_wants ∧ S_may ∧ S_choices ∧ S_halt ∧ S_back ∧ S_made ∧ S_reached ∧ S_fewest ∧ S_plan ∧ S_never ∧ S_hire ∧ S_walks ∧ S_call ∧ S_see ∧ S_unsee ∧ S_ways ∧ S_byThen ∧ S_likely ∧ S_even ∧ S_keepU ∧ S_keepN0 ∧ S_keepN1 ∧ S_keepS0 ∧ S_keepS1 ∧ S_againU ∧ S_againN0 ∧ S_againN1 ∧ S_againS0 ∧ S_againS1
set_option maxHeartbeats 8000000 in
set_option maxRecDepth 100000 in
theorem law_loop {p : Program} {e : Env} {s : State} {m : MethodId} {below : List Frame} {meth : Method} {c : Code} {b L : Nat} {xs : Nat → Int32} (hL : L ≤ 2048) (C0 : lw_At p s m meth c b L xs) (l : Launch) (D : va_G) (cI cJ cZ cR : ClassId) (hK : va_K D kCl (kTy cI cJ cZ cR) s) (a : Nat → Nat) (hall : SAll) : ∀ (n j : Nat) (vI : Nat → Int32) (vL : Nat → Int64) (fI : Nat → Nat → Int32) (fL : Nat → Nat → Int64) (fk : Nat → Option Nat) (k0 k1 : Option KD) (H : Heap) (locs : List Loc) (nc ns : Nat) (ls : Array Slot), L < 4 * (j + n) + 4 → 4 * j ≤ L → RR vI fI fk k0 k1 → kX D (fun q : Nat => s.heap.size ≤ q) (lwX cI cJ cZ cR a vI vL fI fL fk) (lwM cI cJ cZ a vI vL fI fL ++ (kWo cI k0 ++ kWo cI k1)) H → va_S (fun q : Nat => s.heap.size ≤ q) s.heap H locs → nc + 7 * n ≤ 600000 → ns + 55 * n ≤ 7302249 → lv_has ls 4 [(0, .ref b), (1, .ref (a 0)), (2, .ref (a 40)), (3, .int (nI (4 * j)))] → W p l e room_1 s m #[Value.ref b] below meth c H locs nc ns (lw_Z below #[Value.ref b] s) (F0 m 18 ls []) := by
  obtain ⟨hx, hb, hr, hml, hown0, hts, hX, hbl, hlocks, hgv⟩ := id C0
  have hbA : ¬ (fun q : Nat => s.heap.size ≤ q) b := Nat.not_le.mpr hbl
  intro n
  induction n with
  | zero =>
    intro j vI vL fI fL fk k0 k1 H locs nc ns ls hn hj hR hB hS hc hs hl
    refine lv_iload_n hx hb dL_law_18 rfl (lv_at hl 3 rfl) ?_
    refine lv_aload_n hx hb dL_law_19 rfl (lv_at hl 0 rfl) ?_
    refine va_slen hx hb hX hbl hbA hS dL_law_20 ?_
    refine lv_iconst (v := (4 : Int32)) hx hb dL_law_21 (by decide) ?_
    refine lv_isub hx hb dL_law_22 ?_
    refine lv_icmp_gt (tgt := 848) hx hb dL_law_23 (by decide) (fun _ => ?_) (fun c1 => ?_)
    · refine lv_iconst (v := (1 : Int32)) hx hb dL_law_848 (by decide) ?_
      refine va_forget (fun q hq => hS.2.2 q hq) ?_
      refine W.widen (k := 600000) (n := 7302249) (by omega) (by omega) ?_
      exact lw_ret hx hb hr hlocks dL_law_849
    · have h4 : 4 * j + 4 ≤ L := by
        have e : (nI L - nI 4).toInt = (L : Int) - 4 := pk_sub_toInt (by omega) (by decide)
        have e2 : (nI (4 * j)).toInt = ((4 * j : Nat) : Int) := nI_toInt (by omega)
        have c2 : ¬ (nI L - nI 4 < nI (4 * j)) := c1
        rw [Int32.lt_iff_toInt_lt, e, e2] at c2
        omega
      omega
  | succ n ih =>
    intro j vI vL fI fL fk k0 k1 H locs nc ns ls hn hj hR hB hS hc hs hl
    refine lv_iload_n hx hb dL_law_18 rfl (lv_at hl 3 rfl) ?_
    refine lv_aload_n hx hb dL_law_19 rfl (lv_at hl 0 rfl) ?_
    refine va_slen hx hb hX hbl hbA hS dL_law_20 ?_
    refine lv_iconst (v := (4 : Int32)) hx hb dL_law_21 (by decide) ?_
    refine lv_isub hx hb dL_law_22 ?_
    refine lv_icmp_gt (tgt := 848) hx hb dL_law_23 (by decide) (fun _ => ?_) (fun c1 => ?_)
    · refine lv_iconst (v := (1 : Int32)) hx hb dL_law_848 (by decide) ?_
      refine va_forget (fun q hq => hS.2.2 q hq) ?_
      refine W.widen (k := 600000) (n := 7302249) (by omega) (by omega) ?_
      exact lw_ret hx hb hr hlocks dL_law_849
    · have h4 : 4 * j + 4 ≤ L := by
        have e : (nI L - nI 4).toInt = (L : Int) - 4 := pk_sub_toInt (by omega) (by decide)
        have e2 : (nI (4 * j)).toInt = ((4 * j : Nat) : Int) := nI_toInt (by omega)
        have c2 : ¬ (nI L - nI 4 < nI (4 * j)) := c1
        rw [Int32.lt_iff_toInt_lt, e, e2] at c2
        omega
      have h0 : vp_in (nI (4 * j)) L := vp_in_nI (by omega) (by omega)
      have h1 : vp_in (nI (4 * j) + (1 : Int32)) L := by rw [show (1 : Int32) = nI 1 from rfl, nI_add]; exact vp_in_nI (by omega) (by omega)
      have h2 : vp_in (nI (4 * j) + (2 : Int32)) L := by rw [show (2 : Int32) = nI 2 from rfl, nI_add]; exact vp_in_nI (by omega) (by omega)
      have h3 : vp_in (nI (4 * j) + (3 : Int32)) L := by rw [show (3 : Int32) = nI 3 from rfl, nI_add]; exact vp_in_nI (by omega) (by omega)
      have hnext : ∀ (vI : Nat → Int32) (vL : Nat → Int64) (fI : Nat → Nat → Int32) (fL : Nat → Nat → Int64) (fk : Nat → Option Nat) (k0 k1 : Option KD) (H : Heap) (locs : List Loc) (nc2 ns2 : Nat) (ls : Array Slot), RR vI fI fk k0 k1 → kX D (fun q : Nat => s.heap.size ≤ q) (lwX cI cJ cZ cR a vI vL fI fL fk) (lwM cI cJ cZ a vI vL fI fL ++ (kWo cI k0 ++ kWo cI k1)) H → va_S (fun q : Nat => s.heap.size ≤ q) s.heap H locs → nc2 ≤ nc + 7 → ns2 ≤ ns + 55 → lv_has ls 4 [(0, .ref b), (1, .ref (a 0)), (2, .ref (a 40)), (3, .int (nI (4 * j)))] → W p l e room_1 s m #[Value.ref b] below meth c H locs nc2 ns2 (lw_Z below #[Value.ref b] s) (F0 m 842 ls []) := by
        intro vI vL fI fL fk k0 k1 H locs nc2 ns2 ls hR hB hS hc2 hs2 hl
        refine lv_iinc (v := nI (4 * (j + 1))) (lv' := [(3, .int (nI (4 * (j + 1)))), (0, .ref b), (1, .ref (a 0)), (2, .ref (a 40))]) hx hb dL_law_842 hl (k := 3) rfl (by rw [show 4 * (j + 1) = 4 * j + 4 from rfl, ← nI_add]; rfl) (by decide) rfl (fun ls hl => ?_)
        refine lv_goto (tgt := 18) hx hb dL_law_845 (by decide) ?_
        exact ih (j + 1) vI vL fI fL fk k0 k1 H locs nc2 ns2 ls (by omega) (by omega) hR hB hS (by omega) (by omega) (lv_sub hl [1, 2, 3, 0] rfl)
      have hc7 : nc + 7 ≤ 600000 := by omega
      have hs7 : ns + 55 ≤ 7302249 := by omega
      refine lv_aload_n hx hb dL_law_26 rfl (lv_at hl 0 rfl) ?_
      refine lv_iload_n hx hb dL_law_27 rfl (lv_at hl 3 rfl) ?_
      refine va_sld hx hb hX hbl hbA hS h0 dL_law_28 ?_
      refine lv_bipush (v := (31 : Int32)) hx hb dL_law_29 (by decide) ?_
      refine lv_iand hx hb dL_law_31 ?_
      obtain ⟨sel, esel⟩ : ∃ y : Int32, y = (xs (nI (4 * j)).toNatClampNeg &&& (31 : Int32)) := ⟨_, rfl⟩
      rw [← esel]
      by_cases s_0 : sel = (0 : Int32)
      · refine lv_tableIn (off := 124) (tgt := 156) hx hb dL_law_32 (by rw [s_0]; decide) (by rw [s_0]; decide) (by rw [s_0]; rfl) (by decide) ?_
        exact law_write hall.1 C0 l D cI cJ cZ cR hK a vI vL fI fL fk k0 k1 hR hc7 hs7 hB hS hl h1 h2 h3 hnext
      by_cases s_1 : sel = (1 : Int32)
      · refine lv_tableIn (off := 187) (tgt := 219) hx hb dL_law_32 (by rw [s_1]; decide) (by rw [s_1]; decide) (by rw [s_1]; rfl) (by decide) ?_
        exact law_wipe hall.2.1 C0 l D cI cJ cZ cR hK a vI vL fI fL fk k0 k1 hR hc7 hs7 hB hS hl h1 h2 h3 hnext
      by_cases s_2 : sel = (2 : Int32)
      · refine lv_tableIn (off := 200) (tgt := 232) hx hb dL_law_32 (by rw [s_2]; decide) (by rw [s_2]; decide) (by rw [s_2]; rfl) (by decide) ?_
        exact law_fault hall.2.2.1 C0 l D cI cJ cZ cR hK a vI vL fI fL fk k0 k1 hR hc7 hs7 hB hS hl h1 h2 h3 hnext
      by_cases s_3 : sel = (3 : Int32)
      · refine lv_tableIn (off := 213) (tgt := 245) hx hb dL_law_32 (by rw [s_3]; decide) (by rw [s_3]; decide) (by rw [s_3]; rfl) (by decide) ?_
        exact law_house hall.2.2.2.1 C0 l D cI cJ cZ cR hK a vI vL fI fL fk k0 k1 hR hc7 hs7 hB hS hl h1 h2 h3 hnext
      by_cases s_4 : sel = (4 : Int32)
      · refine lv_tableIn (off := 226) (tgt := 258) hx hb dL_law_32 (by rw [s_4]; decide) (by rw [s_4]; decide) (by rw [s_4]; rfl) (by decide) ?_
        exact law_about hall.2.2.2.2.1 C0 l D cI cJ cZ cR hK a vI vL fI fL fk k0 k1 hR hc7 hs7 hB hS hl h1 h2 h3 hnext
      by_cases s_5 : sel = (5 : Int32)
      · refine lv_tableIn (off := 249) (tgt := 281) hx hb dL_law_32 (by rw [s_5]; decide) (by rw [s_5]; decide) (by rw [s_5]; rfl) (by decide) ?_
        exact law_where hall.2.2.2.2.2.1 C0 l D cI cJ cZ cR hK a vI vL fI fL fk k0 k1 hR hc7 hs7 hB hS hl h1 h2 h3 hnext
      by_cases s_6 : sel = (6 : Int32)
      · refine lv_tableIn (off := 272) (tgt := 304) hx hb dL_law_32 (by rw [s_6]; decide) (by rw [s_6]; decide) (by rw [s_6]; rfl) (by decide) ?_
        exact law_wants hall.2.2.2.2.2.2.1 C0 l D cI cJ cZ cR hK a vI vL fI fL fk k0 k1 hR hc7 hs7 hB hS hl h1 h2 h3 hnext
      by_cases s_7 : sel = (7 : Int32)
      · refine lv_tableIn (off := 295) (tgt := 327) hx hb dL_law_32 (by rw [s_7]; decide) (by rw [s_7]; decide) (by rw [s_7]; rfl) (by decide) ?_
        exact law_may hall.2.2.2.2.2.2.2.1 C0 l D cI cJ cZ cR hK a vI vL fI fL fk k0 k1 hR hc7 hs7 hB hS hl h1 h2 h3 hnext
      by_cases s_8 : sel = (8 : Int32)
      · refine lv_tableIn (off := 344) (tgt := 376) hx hb dL_law_32 (by rw [s_8]; decide) (by rw [s_8]; decide) (by rw [s_8]; rfl) (by decide) ?_
        exact law_choices hall.2.2.2.2.2.2.2.2.1 C0 l D cI cJ cZ cR hK a vI vL fI fL fk k0 k1 hR hc7 hs7 hB hS hl h1 h2 h3 hnext
      by_cases s_9 : sel = (9 : Int32)
      · refine lv_tableIn (off := 367) (tgt := 399) hx hb dL_law_32 (by rw [s_9]; decide) (by rw [s_9]; decide) (by rw [s_9]; rfl) (by decide) ?_
        exact law_halt hall.2.2.2.2.2.2.2.2.2.1 C0 l D cI cJ cZ cR hK a vI vL fI fL fk k0 k1 hR hc7 hs7 hB hS hl h1 h2 h3 hnext
      by_cases s_10 : sel = (10 : Int32)
      · refine lv_tableIn (off := 410) (tgt := 442) hx hb dL_law_32 (by rw [s_10]; decide) (by rw [s_10]; decide) (by rw [s_10]; rfl) (by decide) ?_
        exact law_back hall.2.2.2.2.2.2.2.2.2.2.1 C0 l D cI cJ cZ cR hK a vI vL fI fL fk k0 k1 hR hc7 hs7 hB hS hl h1 h2 h3 hnext
      by_cases s_11 : sel = (11 : Int32)
      · refine lv_tableIn (off := 423) (tgt := 455) hx hb dL_law_32 (by rw [s_11]; decide) (by rw [s_11]; decide) (by rw [s_11]; rfl) (by decide) ?_
        exact law_made hall.2.2.2.2.2.2.2.2.2.2.2.1 C0 l D cI cJ cZ cR hK a vI vL fI fL fk k0 k1 hR hc7 hs7 hB hS hl h1 h2 h3 hnext
      by_cases s_12 : sel = (12 : Int32)
      · refine lv_tableIn (off := 456) (tgt := 488) hx hb dL_law_32 (by rw [s_12]; decide) (by rw [s_12]; decide) (by rw [s_12]; rfl) (by decide) ?_
        exact law_reached hall.2.2.2.2.2.2.2.2.2.2.2.2.1 C0 l D cI cJ cZ cR hK a vI vL fI fL fk k0 k1 hR hc7 hs7 hB hS hl h1 h2 h3 hnext
      by_cases s_13 : sel = (13 : Int32)
      · refine lv_tableIn (off := 469) (tgt := 501) hx hb dL_law_32 (by rw [s_13]; decide) (by rw [s_13]; decide) (by rw [s_13]; rfl) (by decide) ?_
        exact law_fewest hall.2.2.2.2.2.2.2.2.2.2.2.2.2.1 C0 l D cI cJ cZ cR hK a vI vL fI fL fk k0 k1 hR hc7 hs7 hB hS hl h1 h2 h3 hnext
      by_cases s_14 : sel = (14 : Int32)
      · refine lv_tableIn (off := 492) (tgt := 524) hx hb dL_law_32 (by rw [s_14]; decide) (by rw [s_14]; decide) (by rw [s_14]; rfl) (by decide) ?_
        exact law_plan hall.2.2.2.2.2.2.2.2.2.2.2.2.2.2.1 C0 l D cI cJ cZ cR hK a vI vL fI fL fk k0 k1 hR hc7 hs7 hB hS hl h1 h2 h3 hnext
      by_cases s_15 : sel = (15 : Int32)
      · refine lv_tableIn (off := 535) (tgt := 567) hx hb dL_law_32 (by rw [s_15]; decide) (by rw [s_15]; decide) (by rw [s_15]; rfl) (by decide) ?_
        exact law_never hall.2.2.2.2.2.2.2.2.2.2.2.2.2.2.2.1 C0 l D cI cJ cZ cR hK a vI vL fI fL fk k0 k1 hR hc7 hs7 hB hS hl h1 h2 h3 hnext
      by_cases s_16 : sel = (16 : Int32)
      · refine lv_tableIn (off := 548) (tgt := 580) hx hb dL_law_32 (by rw [s_16]; decide) (by rw [s_16]; decide) (by rw [s_16]; rfl) (by decide) ?_
        exact law_hire hall.2.2.2.2.2.2.2.2.2.2.2.2.2.2.2.2.1 C0 l D cI cJ cZ cR hK a vI vL fI fL fk k0 k1 hR hc7 hs7 hB hS hl h1 h2 h3 hnext
      by_cases s_17 : sel = (17 : Int32)
      · refine lv_tableIn (off := 561) (tgt := 593) hx hb dL_law_32 (by rw [s_17]; decide) (by rw [s_17]; decide) (by rw [s_17]; rfl) (by decide) ?_
        exact law_walks hall.2.2.2.2.2.2.2.2.2.2.2.2.2.2.2.2.2.1 C0 l D cI cJ cZ cR hK a vI vL fI fL fk k0 k1 hR hc7 hs7 hB hS hl h1 h2 h3 hnext
      by_cases s_18 : sel = (18 : Int32)
      · refine lv_tableIn (off := 574) (tgt := 606) hx hb dL_law_32 (by rw [s_18]; decide) (by rw [s_18]; decide) (by rw [s_18]; rfl) (by decide) ?_
        exact law_call hall.2.2.2.2.2.2.2.2.2.2.2.2.2.2.2.2.2.2.1 C0 l D cI cJ cZ cR hK a vI vL fI fL fk k0 k1 hR hc7 hs7 hB hS hl h1 h2 h3 hnext
      by_cases s_19 : sel = (19 : Int32)
      · refine lv_tableIn (off := 597) (tgt := 629) hx hb dL_law_32 (by rw [s_19]; decide) (by rw [s_19]; decide) (by rw [s_19]; rfl) (by decide) ?_
        exact law_see hall.2.2.2.2.2.2.2.2.2.2.2.2.2.2.2.2.2.2.2.1 C0 l D cI cJ cZ cR hK a vI vL fI fL fk k0 k1 hR hc7 hs7 hB hS hl h1 h2 h3 hnext
      by_cases s_20 : sel = (20 : Int32)
      · refine lv_tableIn (off := 630) (tgt := 662) hx hb dL_law_32 (by rw [s_20]; decide) (by rw [s_20]; decide) (by rw [s_20]; rfl) (by decide) ?_
        exact law_unsee hall.2.2.2.2.2.2.2.2.2.2.2.2.2.2.2.2.2.2.2.2.1 C0 l D cI cJ cZ cR hK a vI vL fI fL fk k0 k1 hR hc7 hs7 hB hS hl h1 h2 h3 hnext
      by_cases s_21 : sel = (21 : Int32)
      · refine lv_tableIn (off := 643) (tgt := 675) hx hb dL_law_32 (by rw [s_21]; decide) (by rw [s_21]; decide) (by rw [s_21]; rfl) (by decide) ?_
        exact law_ways hall.2.2.2.2.2.2.2.2.2.2.2.2.2.2.2.2.2.2.2.2.2.1 C0 l D cI cJ cZ cR hK a vI vL fI fL fk k0 k1 hR hc7 hs7 hB hS hl h1 h2 h3 hnext
      by_cases s_22 : sel = (22 : Int32)
      · refine lv_tableIn (off := 657) (tgt := 689) hx hb dL_law_32 (by rw [s_22]; decide) (by rw [s_22]; decide) (by rw [s_22]; rfl) (by decide) ?_
        exact law_byThen hall.2.2.2.2.2.2.2.2.2.2.2.2.2.2.2.2.2.2.2.2.2.2.1 C0 l D cI cJ cZ cR hK a vI vL fI fL fk k0 k1 hR hc7 hs7 hB hS hl h1 h2 h3 hnext
      by_cases s_23 : sel = (23 : Int32)
      · refine lv_tableIn (off := 681) (tgt := 713) hx hb dL_law_32 (by rw [s_23]; decide) (by rw [s_23]; decide) (by rw [s_23]; rfl) (by decide) ?_
        exact law_likely hall.2.2.2.2.2.2.2.2.2.2.2.2.2.2.2.2.2.2.2.2.2.2.2.1 C0 l D cI cJ cZ cR hK a vI vL fI fL fk k0 k1 hR hc7 hs7 hB hS hl h1 h2 h3 hnext
      by_cases s_24 : sel = (24 : Int32)
      · refine lv_tableIn (off := 714) (tgt := 746) hx hb dL_law_32 (by rw [s_24]; decide) (by rw [s_24]; decide) (by rw [s_24]; rfl) (by decide) ?_
        exact law_even hall.2.2.2.2.2.2.2.2.2.2.2.2.2.2.2.2.2.2.2.2.2.2.2.2.1 C0 l D cI cJ cZ cR hK a vI vL fI fL fk k0 k1 hR hc7 hs7 hB hS hl h1 h2 h3 hnext
      by_cases s_25 : sel = (25 : Int32)
      · refine lv_tableIn (off := 764) (tgt := 796) hx hb dL_law_32 (by rw [s_25]; decide) (by rw [s_25]; decide) (by rw [s_25]; rfl) (by decide) ?_
        by_cases hu : ¬ (xs (nI (4 * j) + (1 : Int32)).toNatClampNeg) < 0 → ¬ (xs (nI (4 * j) + (1 : Int32)).toNatClampNeg) < 2
        · exact law_keepU hall.2.2.2.2.2.2.2.2.2.2.2.2.2.2.2.2.2.2.2.2.2.2.2.2.2.1 C0 l D cI cJ cZ cR hK a vI vL fI fL fk k0 k1 hR hc7 hs7 hB hS hl h1 h2 h3 hu hnext
        · have h01 : (xs (nI (4 * j) + (1 : Int32)).toNatClampNeg) = 0 ∨ (xs (nI (4 * j) + (1 : Int32)).toNatClampNeg) = 1 := k01 hu
          rcases h01 with hp | hp
          · cases hk0 : k0 with
            | none => subst hk0; exact law_keepN0 hall.2.2.2.2.2.2.2.2.2.2.2.2.2.2.2.2.2.2.2.2.2.2.2.2.2.2.1 C0 l D cI cJ cZ cR hK a vI vL fI fL fk none k1 hR hc7 hs7 hB hS hl h1 h2 h3 hp rfl hnext
            | some d => subst hk0; exact law_keepS0 hall.2.2.2.2.2.2.2.2.2.2.2.2.2.2.2.2.2.2.2.2.2.2.2.2.2.2.2.2.1 C0 l D cI cJ cZ cR hK a vI vL fI fL fk (some d) k1 hR hc7 hs7 hB hS hl h1 h2 h3 hp d rfl hnext
          · cases hk0 : k1 with
            | none => subst hk0; exact law_keepN1 hall.2.2.2.2.2.2.2.2.2.2.2.2.2.2.2.2.2.2.2.2.2.2.2.2.2.2.2.1 C0 l D cI cJ cZ cR hK a vI vL fI fL fk k0 none hR hc7 hs7 hB hS hl h1 h2 h3 hp rfl hnext
            | some d => subst hk0; exact law_keepS1 hall.2.2.2.2.2.2.2.2.2.2.2.2.2.2.2.2.2.2.2.2.2.2.2.2.2.2.2.2.2.1 C0 l D cI cJ cZ cR hK a vI vL fI fL fk k0 (some d) hR hc7 hs7 hB hS hl h1 h2 h3 hp d rfl hnext
      by_cases s_26 : sel = (26 : Int32)
      · refine lv_tableIn (off := 787) (tgt := 819) hx hb dL_law_32 (by rw [s_26]; decide) (by rw [s_26]; decide) (by rw [s_26]; rfl) (by decide) ?_
        by_cases hu : ¬ (xs (nI (4 * j) + (1 : Int32)).toNatClampNeg) < 0 → ¬ (xs (nI (4 * j) + (1 : Int32)).toNatClampNeg) < 2
        · exact law_againU hall.2.2.2.2.2.2.2.2.2.2.2.2.2.2.2.2.2.2.2.2.2.2.2.2.2.2.2.2.2.2.1 C0 l D cI cJ cZ cR hK a vI vL fI fL fk k0 k1 hR hc7 hs7 hB hS hl h1 h2 h3 hu hnext
        · have h01 : (xs (nI (4 * j) + (1 : Int32)).toNatClampNeg) = 0 ∨ (xs (nI (4 * j) + (1 : Int32)).toNatClampNeg) = 1 := k01 hu
          rcases h01 with hp | hp
          · cases hk0 : k0 with
            | none => subst hk0; exact law_againN0 hall.2.2.2.2.2.2.2.2.2.2.2.2.2.2.2.2.2.2.2.2.2.2.2.2.2.2.2.2.2.2.2.1 C0 l D cI cJ cZ cR hK a vI vL fI fL fk none k1 hR hc7 hs7 hB hS hl h1 h2 h3 hp rfl hnext
            | some d => subst hk0; exact law_againS0 hall.2.2.2.2.2.2.2.2.2.2.2.2.2.2.2.2.2.2.2.2.2.2.2.2.2.2.2.2.2.2.2.2.2.1 C0 l D cI cJ cZ cR hK a vI vL fI fL fk (some d) k1 hR hc7 hs7 hB hS hl h1 h2 h3 hp d rfl hnext
          · cases hk0 : k1 with
            | none => subst hk0; exact law_againN1 hall.2.2.2.2.2.2.2.2.2.2.2.2.2.2.2.2.2.2.2.2.2.2.2.2.2.2.2.2.2.2.2.2.1 C0 l D cI cJ cZ cR hK a vI vL fI fL fk k0 none hR hc7 hs7 hB hS hl h1 h2 h3 hp rfl hnext
            | some d => subst hk0; exact law_againS1 hall.2.2.2.2.2.2.2.2.2.2.2.2.2.2.2.2.2.2.2.2.2.2.2.2.2.2.2.2.2.2.2.2.2.2 C0 l D cI cJ cZ cR hK a vI vL fI fL fk k0 (some d) hR hc7 hs7 hB hS hl h1 h2 h3 hp d rfl hnext
      refine lv_tableOut (tgt := 842) hx hb dL_law_32 (by have := lv_neT s_0 (show (0 : Int32).toInt = 0 from by decide); have := lv_neT s_1 (show (1 : Int32).toInt = 1 from by decide); have := lv_neT s_2 (show (2 : Int32).toInt = 2 from by decide); have := lv_neT s_3 (show (3 : Int32).toInt = 3 from by decide); have := lv_neT s_4 (show (4 : Int32).toInt = 4 from by decide); have := lv_neT s_5 (show (5 : Int32).toInt = 5 from by decide); have := lv_neT s_6 (show (6 : Int32).toInt = 6 from by decide); have := lv_neT s_7 (show (7 : Int32).toInt = 7 from by decide); have := lv_neT s_8 (show (8 : Int32).toInt = 8 from by decide); have := lv_neT s_9 (show (9 : Int32).toInt = 9 from by decide); have := lv_neT s_10 (show (10 : Int32).toInt = 10 from by decide); have := lv_neT s_11 (show (11 : Int32).toInt = 11 from by decide); have := lv_neT s_12 (show (12 : Int32).toInt = 12 from by decide); have := lv_neT s_13 (show (13 : Int32).toInt = 13 from by decide); have := lv_neT s_14 (show (14 : Int32).toInt = 14 from by decide); have := lv_neT s_15 (show (15 : Int32).toInt = 15 from by decide); have := lv_neT s_16 (show (16 : Int32).toInt = 16 from by decide); have := lv_neT s_17 (show (17 : Int32).toInt = 17 from by decide); have := lv_neT s_18 (show (18 : Int32).toInt = 18 from by decide); have := lv_neT s_19 (show (19 : Int32).toInt = 19 from by decide); have := lv_neT s_20 (show (20 : Int32).toInt = 20 from by decide); have := lv_neT s_21 (show (21 : Int32).toInt = 21 from by decide); have := lv_neT s_22 (show (22 : Int32).toInt = 22 from by decide); have := lv_neT s_23 (show (23 : Int32).toInt = 23 from by decide); have := lv_neT s_24 (show (24 : Int32).toInt = 24 from by decide); have := lv_neT s_25 (show (25 : Int32).toInt = 25 from by decide); have := lv_neT s_26 (show (26 : Int32).toInt = 26 from by decide); omega) (by decide) ?_
      exact hnext vI vL fI fL fk k0 k1 H locs nc ns ls hR hB hS (by omega) (by omega) hl
