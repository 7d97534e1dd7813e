set_option maxHeartbeats 8000000 in
set_option maxRecDepth 100000 in
theorem law_keepU (hsm : S_keepU) {p : Program} {e : Env} {s : State} {m : MethodId} {below : List Frame} {meth : Method} {c : Code} {b L : Nat} {xs : Nat → Int32} (C0 : lw_At p s m meth c b L xs) (l : Launch) (D : va_G) (cI cJ cZ cR : ClassId) (hK : va_K D kCl (kTy cI cJ cZ cR) s) (a : Nat → Nat) (vI : Nat → Int32) (vL : Nat → Int64) (fI : Nat → Nat → Int32) (fL : Nat → Nat → Int64) (fk : Nat → Option Nat) (k0 k1 : Option KD) (hR : RR vI fI fk k0 k1) {H : Heap} {locs : List Loc} {nc ns : Nat} (hc : nc + 7 ≤ 600000) (hs : ns + 55 ≤ 7302249) (hB : kX D (fun q : Nat => s.heap.size ≤ q) (lwX cI cJ cZ cR a vI vL fI fL fk) (lwM cI cJ cZ a vI vL fI fL ++ (kWo cI k0 ++ kWo cI k1)) H) (hS : va_S (fun q : Nat => s.heap.size ≤ q) s.heap H locs) {ls : Array Slot} {x3 : Int32} (hl : lv_has ls 4 [(0, .ref b), (1, .ref (a 0)), (2, .ref (a 40)), (3, .int x3)]) (h1 : vp_in (x3 + (1 : Int32)) L) (h2 : vp_in (x3 + (2 : Int32)) L) (h3 : vp_in (x3 + (3 : Int32)) L) (hu : ¬ (xs (x3 + (1 : Int32)).toNatClampNeg) < 0 → ¬ (xs (x3 + (1 : Int32)).toNatClampNeg) < 2) (hnext : ∀ (vI : Nat → Int32) (vL : Nat → Int64) (fI : Nat → Nat → Int32) (fL : Nat → Nat → Int64) (fk : Nat → Option Nat) (k0 k1 : Option KD) (H : Heap) (locs : List Loc) (nc2 ns2 : Nat) (ls : Array Slot), RR vI fI fk k0 k1 → kX D (fun q : Nat => s.heap.size ≤ q) (lwX cI cJ cZ cR a vI vL fI fL fk) (lwM cI cJ cZ a vI vL fI fL ++ (kWo cI k0 ++ kWo cI k1)) H → va_S (fun q : Nat => s.heap.size ≤ q) s.heap H locs → nc2 ≤ nc + 7 → ns2 ≤ ns + 55 → lv_has ls 4 [(0, .ref b), (1, .ref (a 0)), (2, .ref (a 40)), (3, .int x3)] → W p l e room_1 s m #[Value.ref b] below meth c H locs nc2 ns2 (lw_Z below #[Value.ref b] s) (F0 m 842 ls [])) : W p l e room_1 s m #[Value.ref b] below meth c H locs nc ns (lw_Z below #[Value.ref b] s) (F0 m 796 ls []) := by
  obtain ⟨hx, hb, hr, hml, hown0, hts, hX, hbl, hlocks, hgv⟩ := C0
  have hown : s.vm.findClass RL = some m.cls := hown0
  have ht : ∀ w ∈ kTb, w.before #[Value.ref b] s = true := fun w h => hts w (kTb_lw w h)
  have hN : kN s := kN.of hts
  have hA : ∀ q : Nat, s.heap.size ≤ q → (fun q : Nat => s.heap.size ≤ q) q := fun _ h => h
  have hbA : ¬ (fun q : Nat => s.heap.size ≤ q) b := Nat.not_le.mpr hbl
  refine lv_aload_n hx hb dL_law_796 rfl (lv_at hl 1 rfl) ?_
  refine lv_aload_n hx hb dL_law_797 rfl (lv_at hl 0 rfl) ?_
  refine lv_iload_n hx hb dL_law_798 rfl (lv_at hl 3 rfl) ?_
  refine lv_iconst (v := (1 : Int32)) hx hb dL_law_799 (by decide) ?_
  refine lv_iadd hx hb dL_law_800 ?_
  refine va_sld hx hb hX hbl hbA hS h1 dL_law_801 ?_
  have hw := hsm (xs (x3 + (1 : Int32)).toNatClampNeg) (vI 34) (vI 35) (vI 36) (vI 37) (vI 38) (vI 39) (fI 33) (fI 25) (fI 32) (fI 22) (fI 23) (fI 24) (vI 10) (vI 11) (vI 12) (vI 8) (vI 9) (fI 6) (fI 7) (fI 8) (fI 9) (fI 10) (vI 0) (vI 13) (fI 11) (fI 12) (fI 13) fk hR.2.1 k0 k1 hR.2.2.2.2 hu
  refine kSi0 (kRV hx hb hml hown ht hN hK hB.1 hB.2.1 (c_X10_keepU l D cI cJ cZ cR (a 0) (a 1) (a 3) (a 4) (a 11) (a 18) (a 19) (a 24) (a 25) (a 30) (a 36) (vI 0) fk (xs (x3 + (1 : Int32)).toNatClampNeg) hu _ hw) [0, 18] rfl rfl (T := TX10) (N := 11) rfl rfl mw_793 mw_794 mw_795 mw_1 mw_796 hdX10_keepU ⟨Nat.le_of_ble_eq_true rfl, Nat.le_of_ble_eq_true rfl⟩ ⟨rfl, rfl⟩ hl.1 rfl (Nat.le_of_ble_eq_true rfl) dL_law_802 (kRoom (by omega) (by omega))) hB hS hA [0, 18] rfl rfl (fun r_1 H locs hw hB hS => ?_)
  refine lv_aload_n hx hb dL_law_805 rfl (lv_at hl 2 rfl) ?_
  refine lv_aload_n hx hb dL_law_806 rfl (lv_at hl 0 rfl) ?_
  refine lv_iload_n hx hb dL_law_807 rfl (lv_at hl 3 rfl) ?_
  refine lv_iconst (v := (1 : Int32)) hx hb dL_law_808 (by decide) ?_
  refine lv_iadd hx hb dL_law_809 ?_
  refine va_sld hx hb hX hbl hbA hS h1 dL_law_810 ?_
  replace hB := hB.turn
  refine kSi3 (kRV hx hb hml hown ht hN hK hB.1 hB.2.1 (c_X11_keep l D cI cJ cZ cR (a 40) (a 41) (a 42) (a 43) (a 44) (a 45) (a 46) (a 47) (a 48) (a 49) (a 50) (a 51) (a 52) (a 53) (a 54) (a 55) (a 56) (a 57) (a 58) (a 59) (a 60) (vI 31) (vI 32) (vI 33) (vI 34) (vI 35) (vI 36) (vI 37) (vI 38) (vI 39) (vI 40) (vI 41) (vI 42) (vI 43) (vI 44) (vI 45) (vI 46) (vI 47) (fI 33) (fI 25) (fI 32) (fI 22) (fI 23) (fI 24) (xs (x3 + (1 : Int32)).toNatClampNeg) _ hw) [0, 13, 5, 12, 2, 3, 4] rfl rfl (T := TX11) (N := 37) rfl rfl mw_1168 mw_1169 mw_1170 mw_11 mw_1171 hdX11_keep ⟨Nat.le_of_ble_eq_true rfl, Nat.le_of_ble_eq_true rfl⟩ ⟨rfl, rfl⟩ hl.1 rfl (Nat.le_of_ble_eq_true rfl) dL_law_811 (kRoom (by omega) (by omega))) hB hS hA [0, 13, 5, 12, 2, 3, 4] rfl (fun _ _ _ => rfl) (fun r_2 v_3 f_4 f_5 H locs hw hB hS => ?_)
  replace hB := hB.turn
  refine lv_icmp_eq (tgt := 842) hx hb dL_law_814 (by decide) (fun _ => ?_) (fun z => absurd hw.1 z)
  exact hnext (fun i => if i = 31 then v_3 else vI i) vL (fun i => if i = 32 then f_5 else if i = 33 then f_4 else fI i) fL fk k0 k1 H locs _ _ ls ⟨hR.1, hR.2.1, hR.2.2.1, hR.2.2.2.1, hw.2⟩ hB hS (by omega) (by omega) hl
set_option maxHeartbeats 8000000 in
set_option maxRecDepth 100000 in
theorem law_keepN0 (hsm : S_keepN0) {p : Program} {e : Env} {s : State} {m : MethodId} {below : List Frame} {meth : Method} {c : Code} {b L : Nat} {xs : Nat → Int32} (C0 : lw_At p s m meth c b L xs) (l : Launch) (D : va_G) (cI cJ cZ cR : ClassId) (hK : va_K D kCl (kTy cI cJ cZ cR) s) (a : Nat → Nat) (vI : Nat → Int32) (vL : Nat → Int64) (fI : Nat → Nat → Int32) (fL : Nat → Nat → Int64) (fk : Nat → Option Nat) (k0 k1 : Option KD) (hR : RR vI fI fk k0 k1) {H : Heap} {locs : List Loc} {nc ns : Nat} (hc : nc + 7 ≤ 600000) (hs : ns + 55 ≤ 7302249) (hB : kX D (fun q : Nat => s.heap.size ≤ q) (lwX cI cJ cZ cR a vI vL fI fL fk) (lwM cI cJ cZ a vI vL fI fL ++ (kWo cI k0 ++ kWo cI k1)) H) (hS : va_S (fun q : Nat => s.heap.size ≤ q) s.heap H locs) {ls : Array Slot} {x3 : Int32} (hl : lv_has ls 4 [(0, .ref b), (1, .ref (a 0)), (2, .ref (a 40)), (3, .int x3)]) (h1 : vp_in (x3 + (1 : Int32)) L) (h2 : vp_in (x3 + (2 : Int32)) L) (h3 : vp_in (x3 + (3 : Int32)) L) (hp : (xs (x3 + (1 : Int32)).toNatClampNeg) = 0) (hk0 : k0 = none) (hnext : ∀ (vI : Nat → Int32) (vL : Nat → Int64) (fI : Nat → Nat → Int32) (fL : Nat → Nat → Int64) (fk : Nat → Option Nat) (k0 k1 : Option KD) (H : Heap) (locs : List Loc) (nc2 ns2 : Nat) (ls : Array Slot), RR vI fI fk k0 k1 → kX D (fun q : Nat => s.heap.size ≤ q) (lwX cI cJ cZ cR a vI vL fI fL fk) (lwM cI cJ cZ a vI vL fI fL ++ (kWo cI k0 ++ kWo cI k1)) H → va_S (fun q : Nat => s.heap.size ≤ q) s.heap H locs → nc2 ≤ nc + 7 → ns2 ≤ ns + 55 → lv_has ls 4 [(0, .ref b), (1, .ref (a 0)), (2, .ref (a 40)), (3, .int x3)] → W p l e room_1 s m #[Value.ref b] below meth c H locs nc2 ns2 (lw_Z below #[Value.ref b] s) (F0 m 842 ls [])) : W p l e room_1 s m #[Value.ref b] below meth c H locs nc ns (lw_Z below #[Value.ref b] s) (F0 m 796 ls []) := by
  obtain ⟨hx, hb, hr, hml, hown0, hts, hX, hbl, hlocks, hgv⟩ := C0
  have hown : s.vm.findClass RL = some m.cls := hown0
  have ht : ∀ w ∈ kTb, w.before #[Value.ref b] s = true := fun w h => hts w (kTb_lw w h)
  have hN : kN s := kN.of hts
  have hA : ∀ q : Nat, s.heap.size ≤ q → (fun q : Nat => s.heap.size ≤ q) q := fun _ h => h
  have hbA : ¬ (fun q : Nat => s.heap.size ≤ q) b := Nat.not_le.mpr hbl
  have hpc : (xs (x3 + (1 : Int32)).toNatClampNeg).toNatClampNeg = 0 := by rw [hp]; rfl
  have hk : fk (xs (x3 + (1 : Int32)).toNatClampNeg).toNatClampNeg = none := by rw [hpc]; have h := hR.2.2.2.2.1; rw [hk0] at h; exact h
  refine lv_aload_n hx hb dL_law_796 rfl (lv_at hl 1 rfl) ?_
  refine lv_aload_n hx hb dL_law_797 rfl (lv_at hl 0 rfl) ?_
  refine lv_iload_n hx hb dL_law_798 rfl (lv_at hl 3 rfl) ?_
  refine lv_iconst (v := (1 : Int32)) hx hb dL_law_799 (by decide) ?_
  refine lv_iadd hx hb dL_law_800 ?_
  refine va_sld hx hb hX hbl hbA hS h1 dL_law_801 ?_
  have hw := hsm (xs (x3 + (1 : Int32)).toNatClampNeg) (vI 8) (vI 9) (vI 10) (vI 11) (vI 12) (fI 6) (fI 7) (fI 8) (fI 9) (fI 10) (vI 34) (vI 35) (vI 36) (vI 37) (vI 38) (vI 39) (fI 33) (fI 25) (fI 32) (fI 22) (fI 23) (fI 24) (vI 0) (vI 13) (fI 11) (fI 12) (fI 13) fk hR.2.1 k0 k1 hR.2.2.2.2 hk0 hp
  refine kTi17 (fun (q0 : Nat) (q1 : Nat) (q2 : Nat) (q3 : Nat) (q4 : Nat) (q5 : Nat) (q6 : Nat) w_7 w_8 w_9 w_10 w_11 w_12 w_13 w_14 w_15 w_16 => [ob (a 0) 8 [.ref (a 1), .ref (a 3), .ref (a 4), .ref (a 11), .ref (a 18), .ref (a 19), .ref (a 24), .ref (a 25), .ref (a 30), .ref (a 36), .int (vI 0)], aQ cR (a 18) 2 (va_up fk (xs (x3 + (1 : Int32)).toNatClampNeg).toNatClampNeg (some q0)), ob (a 11) 4 [.ref (a 12), .int (vI 8), .ref (a 17), .int (vI 9)], ob (a 12) 2 [.int (vI 10), .int (vI 11), .int (vI 12), .ref (a 13), .ref (a 14), .ref (a 15), .ref (a 16)], aI cI (a 13) 4 (fI 6), aI cI (a 14) 4 (fI 7), aI cI (a 15) 6 (fI 8), aI cI (a 16) 6 (fI 9), aI cI (a 17) 24 (fI 10)]) (fun (q0 : Nat) (q1 : Nat) (q2 : Nat) (q3 : Nat) (q4 : Nat) (q5 : Nat) (q6 : Nat) w_7 w_8 w_9 w_10 w_11 w_12 w_13 w_14 w_15 w_16 => [ob q0 4 [.ref q1, .int w_7, .ref q6, .int w_8], ob q1 2 [.int w_9, .int w_10, .int w_11, .ref q2, .ref q3, .ref q4, .ref q5], aI cI q2 4 w_12, aI cI q3 4 w_13, aI cI q4 6 w_14, aI cI q5 6 w_15, aI cI q6 24 w_16]) (kRV hx hb hml hown ht hN hK hB.1 hB.2.1 (c_X10_keepN l D cI cJ cZ cR (a 0) (a 1) (a 3) (a 4) (a 11) (a 18) (a 19) (a 24) (a 25) (a 30) (a 36) (a 12) (a 17) (a 13) (a 14) (a 15) (a 16) (vI 0) fk (vI 8) (vI 9) (vI 10) (vI 11) (vI 12) (fI 6) (fI 7) (fI 8) (fI 9) (fI 10) (xs (x3 + (1 : Int32)).toNatClampNeg) hk (by rw [hp]; decide) (by rw [hp]; decide) _ hw) [0, 18, 11, 12, 13, 14, 15, 16, 17] rfl rfl (T := TX10) (N := 11) rfl rfl mw_793 mw_794 mw_795 mw_1 mw_796 hdX10_keepN ⟨Nat.le_of_ble_eq_true rfl, Nat.le_of_ble_eq_true rfl⟩ ⟨rfl, rfl⟩ hl.1 rfl (Nat.le_of_ble_eq_true rfl) dL_law_802 (kRoom (by omega) (by omega))) hB hS hA [0, 18, 11, 12, 13, 14, 15, 16, 17] rfl (fun _ _ _ _ _ _ _ _ _ _ _ _ _ _ _ _ _ => rfl) (fun r_6 q0 q1 q2 q3 q4 q5 q6 w_7 w_8 w_9 w_10 w_11 w_12 w_13 w_14 w_15 w_16 H locs hw hB hS => ?_)
  replace hB := hB.mid
  refine lv_aload_n hx hb dL_law_805 rfl (lv_at hl 2 rfl) ?_
  refine lv_aload_n hx hb dL_law_806 rfl (lv_at hl 0 rfl) ?_
  refine lv_iload_n hx hb dL_law_807 rfl (lv_at hl 3 rfl) ?_
  refine lv_iconst (v := (1 : Int32)) hx hb dL_law_808 (by decide) ?_
  refine lv_iadd hx hb dL_law_809 ?_
  refine va_sld hx hb hX hbl hbA hS h1 dL_law_810 ?_
  replace hB := hB.turn
  refine kSi3 (kRV hx hb hml hown ht hN hK hB.1 hB.2.1 (c_X11_keep l D cI cJ cZ cR (a 40) (a 41) (a 42) (a 43) (a 44) (a 45) (a 46) (a 47) (a 48) (a 49) (a 50) (a 51) (a 52) (a 53) (a 54) (a 55) (a 56) (a 57) (a 58) (a 59) (a 60) (vI 31) (vI 32) (vI 33) (vI 34) (vI 35) (vI 36) (vI 37) (vI 38) (vI 39) (vI 40) (vI 41) (vI 42) (vI 43) (vI 44) (vI 45) (vI 46) (vI 47) (fI 33) (fI 25) (fI 32) (fI 22) (fI 23) (fI 24) (xs (x3 + (1 : Int32)).toNatClampNeg) _ hw) [0, 13, 5, 12, 2, 3, 4] rfl rfl (T := TX11) (N := 37) rfl rfl mw_1168 mw_1169 mw_1170 mw_11 mw_1171 hdX11_keep ⟨Nat.le_of_ble_eq_true rfl, Nat.le_of_ble_eq_true rfl⟩ ⟨rfl, rfl⟩ hl.1 rfl (Nat.le_of_ble_eq_true rfl) dL_law_811 (kRoom (by omega) (by omega))) hB hS hA [0, 13, 5, 12, 2, 3, 4] rfl (fun _ _ _ => rfl) (fun r_17 v_18 f_19 f_20 H locs hw hB hS => ?_)
  replace hB := hB.turn
  refine lv_icmp_eq (tgt := 842) hx hb dL_law_814 (by decide) (fun _ => ?_) (fun z => absurd hw.1 z)
  rw [hk0] at hB
  replace hB := hB.backN0
  exact hnext (fun i => if i = 31 then v_18 else vI i) vL (fun i => if i = 32 then f_20 else if i = 33 then f_19 else fI i) fL (va_up fk (xs (x3 + (1 : Int32)).toNatClampNeg).toNatClampNeg (some q0)) (some ((fun i => if i = 0 then q0 else if i = 1 then q1 else if i = 2 then q6 else if i = 3 then q2 else if i = 4 then q3 else if i = 5 then q4 else q5), (fun i => if i = 0 then w_7 else if i = 1 then w_8 else if i = 2 then w_9 else if i = 3 then w_10 else w_11), (fun i => if i = 0 then w_16 else if i = 1 then w_12 else if i = 2 then w_13 else if i = 3 then w_14 else w_15))) k1 H locs _ _ ls ⟨hR.1, hR.2.1, hR.2.2.1, hR.2.2.2.1, ⟨by rw [hpc]; rfl, by rw [hpc]; exact hR.2.2.2.2.2.1, fun j hj => by rw [hpc]; unfold va_up; rw [if_neg (by omega)]; exact hR.2.2.2.2.2.2.1 j hj, hw.2.1, hw.2.2⟩⟩ hB hS (by omega) (by omega) hl
set_option maxHeartbeats 8000000 in
set_option maxRecDepth 100000 in
theorem law_keepN1 (hsm : S_keepN1) {p : Program} {e : Env} {s : State} {m : MethodId} {below : List Frame} {meth : Method} {c : Code} {b L : Nat} {xs : Nat → Int32} (C0 : lw_At p s m meth c b L xs) (l : Launch) (D : va_G) (cI cJ cZ cR : ClassId) (hK : va_K D kCl (kTy cI cJ cZ cR) s) (a : Nat → Nat) (vI : Nat → Int32) (vL : Nat → Int64) (fI : Nat → Nat → Int32) (fL : Nat → Nat → Int64) (fk : Nat → Option Nat) (k0 k1 : Option KD) (hR : RR vI fI fk k0 k1) {H : Heap} {locs : List Loc} {nc ns : Nat} (hc : nc + 7 ≤ 600000) (hs : ns + 55 ≤ 7302249) (hB : kX D (fun q : Nat => s.heap.size ≤ q) (lwX cI cJ cZ cR a vI vL fI fL fk) (lwM cI cJ cZ a vI vL fI fL ++ (kWo cI k0 ++ kWo cI k1)) H) (hS : va_S (fun q : Nat => s.heap.size ≤ q) s.heap H locs) {ls : Array Slot} {x3 : Int32} (hl : lv_has ls 4 [(0, .ref b), (1, .ref (a 0)), (2, .ref (a 40)), (3, .int x3)]) (h1 : vp_in (x3 + (1 : Int32)) L) (h2 : vp_in (x3 + (2 : Int32)) L) (h3 : vp_in (x3 + (3 : Int32)) L) (hp : (xs (x3 + (1 : Int32)).toNatClampNeg) = 1) (hk0 : k1 = none) (hnext : ∀ (vI : Nat → Int32) (vL : Nat → Int64) (fI : Nat → Nat → Int32) (fL : Nat → Nat → Int64) (fk : Nat → Option Nat) (k0 k1 : Option KD) (H : Heap) (locs : List Loc) (nc2 ns2 : Nat) (ls : Array Slot), RR vI fI fk k0 k1 → kX D (fun q : Nat => s.heap.size ≤ q) (lwX cI cJ cZ cR a vI vL fI fL fk) (lwM cI cJ cZ a vI vL fI fL ++ (kWo cI k0 ++ kWo cI k1)) H → va_S (fun q : Nat => s.heap.size ≤ q) s.heap H locs → nc2 ≤ nc + 7 → ns2 ≤ ns + 55 → lv_has ls 4 [(0, .ref b), (1, .ref (a 0)), (2, .ref (a 40)), (3, .int x3)] → W p l e room_1 s m #[Value.ref b] below meth c H locs nc2 ns2 (lw_Z below #[Value.ref b] s) (F0 m 842 ls [])) : W p l e room_1 s m #[Value.ref b] below meth c H locs nc ns (lw_Z below #[Value.ref b] s) (F0 m 796 ls []) := by
  obtain ⟨hx, hb, hr, hml, hown0, hts, hX, hbl, hlocks, hgv⟩ := C0
  have hown : s.vm.findClass RL = some m.cls := hown0
  have ht : ∀ w ∈ kTb, w.before #[Value.ref b] s = true := fun w h => hts w (kTb_lw w h)
  have hN : kN s := kN.of hts
  have hA : ∀ q : Nat, s.heap.size ≤ q → (fun q : Nat => s.heap.size ≤ q) q := fun _ h => h
  have hbA : ¬ (fun q : Nat => s.heap.size ≤ q) b := Nat.not_le.mpr hbl
  have hpc : (xs (x3 + (1 : Int32)).toNatClampNeg).toNatClampNeg = 1 := by rw [hp]; rfl
  have hk : fk (xs (x3 + (1 : Int32)).toNatClampNeg).toNatClampNeg = none := by rw [hpc]; have h := hR.2.2.2.2.2.1; rw [hk0] at h; exact h
  refine lv_aload_n hx hb dL_law_796 rfl (lv_at hl 1 rfl) ?_
  refine lv_aload_n hx hb dL_law_797 rfl (lv_at hl 0 rfl) ?_
  refine lv_iload_n hx hb dL_law_798 rfl (lv_at hl 3 rfl) ?_
  refine lv_iconst (v := (1 : Int32)) hx hb dL_law_799 (by decide) ?_
  refine lv_iadd hx hb dL_law_800 ?_
  refine va_sld hx hb hX hbl hbA hS h1 dL_law_801 ?_
  have hw := hsm (xs (x3 + (1 : Int32)).toNatClampNeg) (vI 8) (vI 9) (vI 10) (vI 11) (vI 12) (fI 6) (fI 7) (fI 8) (fI 9) (fI 10) (vI 34) (vI 35) (vI 36) (vI 37) (vI 38) (vI 39) (fI 33) (fI 25) (fI 32) (fI 22) (fI 23) (fI 24) (vI 0) (vI 13) (fI 11) (fI 12) (fI 13) fk hR.2.1 k0 k1 hR.2.2.2.2 hk0 hp
  refine kTi17 (fun (q0 : Nat) (q1 : Nat) (q2 : Nat) (q3 : Nat) (q4 : Nat) (q5 : Nat) (q6 : Nat) w_22 w_23 w_24 w_25 w_26 w_27 w_28 w_29 w_30 w_31 => [ob (a 0) 8 [.ref (a 1), .ref (a 3), .ref (a 4), .ref (a 11), .ref (a 18), .ref (a 19), .ref (a 24), .ref (a 25), .ref (a 30), .ref (a 36), .int (vI 0)], aQ cR (a 18) 2 (va_up fk (xs (x3 + (1 : Int32)).toNatClampNeg).toNatClampNeg (some q0)), ob (a 11) 4 [.ref (a 12), .int (vI 8), .ref (a 17), .int (vI 9)], ob (a 12) 2 [.int (vI 10), .int (vI 11), .int (vI 12), .ref (a 13), .ref (a 14), .ref (a 15), .ref (a 16)], aI cI (a 13) 4 (fI 6), aI cI (a 14) 4 (fI 7), aI cI (a 15) 6 (fI 8), aI cI (a 16) 6 (fI 9), aI cI (a 17) 24 (fI 10)]) (fun (q0 : Nat) (q1 : Nat) (q2 : Nat) (q3 : Nat) (q4 : Nat) (q5 : Nat) (q6 : Nat) w_22 w_23 w_24 w_25 w_26 w_27 w_28 w_29 w_30 w_31 => [ob q0 4 [.ref q1, .int w_22, .ref q6, .int w_23], ob q1 2 [.int w_24, .int w_25, .int w_26, .ref q2, .ref q3, .ref q4, .ref q5], aI cI q2 4 w_27, aI cI q3 4 w_28, aI cI q4 6 w_29, aI cI q5 6 w_30, aI cI q6 24 w_31]) (kRV hx hb hml hown ht hN hK hB.1 hB.2.1 (c_X10_keepN l D cI cJ cZ cR (a 0) (a 1) (a 3) (a 4) (a 11) (a 18) (a 19) (a 24) (a 25) (a 30) (a 36) (a 12) (a 17) (a 13) (a 14) (a 15) (a 16) (vI 0) fk (vI 8) (vI 9) (vI 10) (vI 11) (vI 12) (fI 6) (fI 7) (fI 8) (fI 9) (fI 10) (xs (x3 + (1 : Int32)).toNatClampNeg) hk (by rw [hp]; decide) (by rw [hp]; decide) _ hw) [0, 18, 11, 12, 13, 14, 15, 16, 17] rfl rfl (T := TX10) (N := 11) rfl rfl mw_793 mw_794 mw_795 mw_1 mw_796 hdX10_keepN ⟨Nat.le_of_ble_eq_true rfl, Nat.le_of_ble_eq_true rfl⟩ ⟨rfl, rfl⟩ hl.1 rfl (Nat.le_of_ble_eq_true rfl) dL_law_802 (kRoom (by omega) (by omega))) hB hS hA [0, 18, 11, 12, 13, 14, 15, 16, 17] rfl (fun _ _ _ _ _ _ _ _ _ _ _ _ _ _ _ _ _ => rfl) (fun r_21 q0 q1 q2 q3 q4 q5 q6 w_22 w_23 w_24 w_25 w_26 w_27 w_28 w_29 w_30 w_31 H locs hw hB hS => ?_)
  replace hB := hB.mid
  refine lv_aload_n hx hb dL_law_805 rfl (lv_at hl 2 rfl) ?_
  refine lv_aload_n hx hb dL_law_806 rfl (lv_at hl 0 rfl) ?_
  refine lv_iload_n hx hb dL_law_807 rfl (lv_at hl 3 rfl) ?_
  refine lv_iconst (v := (1 : Int32)) hx hb dL_law_808 (by decide) ?_
  refine lv_iadd hx hb dL_law_809 ?_
  refine va_sld hx hb hX hbl hbA hS h1 dL_law_810 ?_
  replace hB := hB.turn
  refine kSi3 (kRV hx hb hml hown ht hN hK hB.1 hB.2.1 (c_X11_keep l D cI cJ cZ cR (a 40) (a 41) (a 42) (a 43) (a 44) (a 45) (a 46) (a 47) (a 48) (a 49) (a 50) (a 51) (a 52) (a 53) (a 54) (a 55) (a 56) (a 57) (a 58) (a 59) (a 60) (vI 31) (vI 32) (vI 33) (vI 34) (vI 35) (vI 36) (vI 37) (vI 38) (vI 39) (vI 40) (vI 41) (vI 42) (vI 43) (vI 44) (vI 45) (vI 46) (vI 47) (fI 33) (fI 25) (fI 32) (fI 22) (fI 23) (fI 24) (xs (x3 + (1 : Int32)).toNatClampNeg) _ hw) [0, 13, 5, 12, 2, 3, 4] rfl rfl (T := TX11) (N := 37) rfl rfl mw_1168 mw_1169 mw_1170 mw_11 mw_1171 hdX11_keep ⟨Nat.le_of_ble_eq_true rfl, Nat.le_of_ble_eq_true rfl⟩ ⟨rfl, rfl⟩ hl.1 rfl (Nat.le_of_ble_eq_true rfl) dL_law_811 (kRoom (by omega) (by omega))) hB hS hA [0, 13, 5, 12, 2, 3, 4] rfl (fun _ _ _ => rfl) (fun r_32 v_33 f_34 f_35 H locs hw hB hS => ?_)
  replace hB := hB.turn
  refine lv_icmp_eq (tgt := 842) hx hb dL_law_814 (by decide) (fun _ => ?_) (fun z => absurd hw.1 z)
  rw [hk0] at hB
  replace hB := hB.backN1
  exact hnext (fun i => if i = 31 then v_33 else vI i) vL (fun i => if i = 32 then f_35 else if i = 33 then f_34 else fI i) fL (va_up fk (xs (x3 + (1 : Int32)).toNatClampNeg).toNatClampNeg (some q0)) k0 (some ((fun i => if i = 0 then q0 else if i = 1 then q1 else if i = 2 then q6 else if i = 3 then q2 else if i = 4 then q3 else if i = 5 then q4 else q5), (fun i => if i = 0 then w_22 else if i = 1 then w_23 else if i = 2 then w_24 else if i = 3 then w_25 else w_26), (fun i => if i = 0 then w_31 else if i = 1 then w_27 else if i = 2 then w_28 else if i = 3 then w_29 else w_30))) H locs _ _ ls ⟨hR.1, hR.2.1, hR.2.2.1, hR.2.2.2.1, ⟨by rw [hpc]; exact hR.2.2.2.2.1, by rw [hpc]; rfl, fun j hj => by rw [hpc]; unfold va_up; rw [if_neg (by omega)]; exact hR.2.2.2.2.2.2.1 j hj, hw.2.1, hw.2.2⟩⟩ hB hS (by omega) (by omega) hl
set_option maxHeartbeats 8000000 in
set_option maxRecDepth 100000 in
theorem law_keepS0 (hsm : S_keepS0) {p : Program} {e : Env} {s : State} {m : MethodId} {below : List Frame} {meth : Method} {c : Code} {b L : Nat} {xs : Nat → Int32} (C0 : lw_At p s m meth c b L xs) (l : Launch) (D : va_G) (cI cJ cZ cR : ClassId) (hK : va_K D kCl (kTy cI cJ cZ cR) s) (a : Nat → Nat) (vI : Nat → Int32) (vL : Nat → Int64) (fI : Nat → Nat → Int32) (fL : Nat → Nat → Int64) (fk : Nat → Option Nat) (k0 k1 : Option KD) (hR : RR vI fI fk k0 k1) {H : Heap} {locs : List Loc} {nc ns : Nat} (hc : nc + 7 ≤ 600000) (hs : ns + 55 ≤ 7302249) (hB : kX D (fun q : Nat => s.heap.size ≤ q) (lwX cI cJ cZ cR a vI vL fI fL fk) (lwM cI cJ cZ a vI vL fI fL ++ (kWo cI k0 ++ kWo cI k1)) H) (hS : va_S (fun q : Nat => s.heap.size ≤ q) s.heap H locs) {ls : Array Slot} {x3 : Int32} (hl : lv_has ls 4 [(0, .ref b), (1, .ref (a 0)), (2, .ref (a 40)), (3, .int x3)]) (h1 : vp_in (x3 + (1 : Int32)) L) (h2 : vp_in (x3 + (2 : Int32)) L) (h3 : vp_in (x3 + (3 : Int32)) L) (hp : (xs (x3 + (1 : Int32)).toNatClampNeg) = 0) (d : KD) (hk0 : k0 = some d) (hnext : ∀ (vI : Nat → Int32) (vL : Nat → Int64) (fI : Nat → Nat → Int32) (fL : Nat → Nat → Int64) (fk : Nat → Option Nat) (k0 k1 : Option KD) (H : Heap) (locs : List Loc) (nc2 ns2 : Nat) (ls : Array Slot), RR vI fI fk k0 k1 → kX D (fun q : Nat => s.heap.size ≤ q) (lwX cI cJ cZ cR a vI vL fI fL fk) (lwM cI cJ cZ a vI vL fI fL ++ (kWo cI k0 ++ kWo cI k1)) H → va_S (fun q : Nat => s.heap.size ≤ q) s.heap H locs → nc2 ≤ nc + 7 → ns2 ≤ ns + 55 → lv_has ls 4 [(0, .ref b), (1, .ref (a 0)), (2, .ref (a 40)), (3, .int x3)] → W p l e room_1 s m #[Value.ref b] below meth c H locs nc2 ns2 (lw_Z below #[Value.ref b] s) (F0 m 842 ls [])) : W p l e room_1 s m #[Value.ref b] below meth c H locs nc ns (lw_Z below #[Value.ref b] s) (F0 m 796 ls []) := by
  obtain ⟨hx, hb, hr, hml, hown0, hts, hX, hbl, hlocks, hgv⟩ := C0
  have hown : s.vm.findClass RL = some m.cls := hown0
  have ht : ∀ w ∈ kTb, w.before #[Value.ref b] s = true := fun w h => hts w (kTb_lw w h)
  have hN : kN s := kN.of hts
  have hA : ∀ q : Nat, s.heap.size ≤ q → (fun q : Nat => s.heap.size ≤ q) q := fun _ h => h
  have hbA : ¬ (fun q : Nat => s.heap.size ≤ q) b := Nat.not_le.mpr hbl
  have hpc : (xs (x3 + (1 : Int32)).toNatClampNeg).toNatClampNeg = 0 := by rw [hp]; rfl
  have hk : fk (xs (x3 + (1 : Int32)).toNatClampNeg).toNatClampNeg = some (d.1 0) := by rw [hpc]; have h := hR.2.2.2.2.1; rw [hk0] at h; exact h
  rw [hk0] at hB
  replace hB := hB.front0
  replace hB : kX D (fun q : Nat => s.heap.size ≤ q) (lwX cI cJ cZ cR a vI vL fI fL fk ++ kW cI d) (lwM cI cJ cZ a vI vL fI fL ++ kWo cI k1) H := hB
  refine lv_aload_n hx hb dL_law_796 rfl (lv_at hl 1 rfl) ?_
  refine lv_aload_n hx hb dL_law_797 rfl (lv_at hl 0 rfl) ?_
  refine lv_iload_n hx hb dL_law_798 rfl (lv_at hl 3 rfl) ?_
  refine lv_iconst (v := (1 : Int32)) hx hb dL_law_799 (by decide) ?_
  refine lv_iadd hx hb dL_law_800 ?_
  refine va_sld hx hb hX hbl hbA hS h1 dL_law_801 ?_
  have hw := hsm (xs (x3 + (1 : Int32)).toNatClampNeg) (vI 8) (vI 9) (vI 10) (vI 11) (vI 12) (fI 6) (fI 7) (fI 8) (fI 9) (fI 10) (vI 34) (vI 35) (vI 36) (vI 37) (vI 38) (vI 39) (fI 33) (fI 25) (fI 32) (fI 22) (fI 23) (fI 24) (vI 0) (vI 13) (fI 11) (fI 12) (fI 13) fk hR.2.1 k0 k1 hR.2.2.2.2 d hk0 hp
  refine kSi10 (kRV hx hb hml hown ht hN hK hB.1 hB.2.1 (c_X10_keepS l D cI cJ cZ cR (a 0) (a 1) (a 3) (a 4) (a 11) (a 18) (a 19) (a 24) (a 25) (a 30) (a 36) (d.1 0) (d.1 1) (d.1 2) (a 12) (a 17) (d.1 3) (d.1 4) (d.1 5) (d.1 6) (a 13) (a 14) (a 15) (a 16) (vI 0) fk (d.2.1 0) (d.2.1 1) (vI 8) (vI 9) (d.2.1 2) (d.2.1 3) (d.2.1 4) (vI 10) (vI 11) (vI 12) (fI 6) (d.2.2 1) (fI 7) (d.2.2 2) (fI 8) (d.2.2 3) (fI 9) (d.2.2 4) (fI 10) (d.2.2 0) (xs (x3 + (1 : Int32)).toNatClampNeg) hk _ hw) [0, 18, 40, 11, 41, 12, 13, 42, 14, 43, 15, 44, 16, 45, 17, 46] rfl rfl (T := TX10) (N := 11) rfl rfl mw_793 mw_794 mw_795 mw_1 mw_796 hdX10_keepS ⟨Nat.le_of_ble_eq_true rfl, Nat.le_of_ble_eq_true rfl⟩ ⟨rfl, rfl⟩ hl.1 rfl (Nat.le_of_ble_eq_true rfl) dL_law_802 (kRoom (by omega) (by omega))) hB hS hA [0, 18, 40, 11, 41, 12, 13, 42, 14, 43, 15, 44, 16, 45, 17, 46] rfl (fun _ _ _ _ _ _ _ _ _ _ => rfl) (fun r_36 v_37 v_38 v_39 v_40 v_41 f_42 f_43 f_44 f_45 f_46 H locs hw hB hS => ?_)
  refine lv_aload_n hx hb dL_law_805 rfl (lv_at hl 2 rfl) ?_
  refine lv_aload_n hx hb dL_law_806 rfl (lv_at hl 0 rfl) ?_
  refine lv_iload_n hx hb dL_law_807 rfl (lv_at hl 3 rfl) ?_
  refine lv_iconst (v := (1 : Int32)) hx hb dL_law_808 (by decide) ?_
  refine lv_iadd hx hb dL_law_809 ?_
  refine va_sld hx hb hX hbl hbA hS h1 dL_law_810 ?_
  replace hB := hB.turn
  refine kSi3 (kRV hx hb hml hown ht hN hK hB.1 hB.2.1 (c_X11_keep l D cI cJ cZ cR (a 40) (a 41) (a 42) (a 43) (a 44) (a 45) (a 46) (a 47) (a 48) (a 49) (a 50) (a 51) (a 52) (a 53) (a 54) (a 55) (a 56) (a 57) (a 58) (a 59) (a 60) (vI 31) (vI 32) (vI 33) (vI 34) (vI 35) (vI 36) (vI 37) (vI 38) (vI 39) (vI 40) (vI 41) (vI 42) (vI 43) (vI 44) (vI 45) (vI 46) (vI 47) (fI 33) (fI 25) (fI 32) (fI 22) (fI 23) (fI 24) (xs (x3 + (1 : Int32)).toNatClampNeg) _ hw) [0, 13, 5, 12, 2, 3, 4] rfl rfl (T := TX11) (N := 37) rfl rfl mw_1168 mw_1169 mw_1170 mw_11 mw_1171 hdX11_keep ⟨Nat.le_of_ble_eq_true rfl, Nat.le_of_ble_eq_true rfl⟩ ⟨rfl, rfl⟩ hl.1 rfl (Nat.le_of_ble_eq_true rfl) dL_law_811 (kRoom (by omega) (by omega))) hB hS hA [0, 13, 5, 12, 2, 3, 4] rfl (fun _ _ _ => rfl) (fun r_47 v_48 f_49 f_50 H locs hw hB hS => ?_)
  replace hB := hB.turn
  refine lv_icmp_eq (tgt := 842) hx hb dL_law_814 (by decide) (fun _ => ?_) (fun z => absurd hw.1 z)
  replace hB : kX D (fun q : Nat => s.heap.size ≤ q) (lwX cI cJ cZ cR a (fun i => if i = 31 then v_48 else vI i) vL (fun i => if i = 32 then f_50 else if i = 33 then f_49 else fI i) fL fk ++ kW cI (d.1, (fun i => if i = 0 then v_37 else if i = 1 then v_38 else if i = 2 then v_39 else if i = 3 then v_40 else v_41), (fun i => if i = 0 then f_46 else if i = 1 then f_42 else if i = 2 then f_43 else if i = 3 then f_44 else f_45))) (lwM cI cJ cZ a (fun i => if i = 31 then v_48 else vI i) vL (fun i => if i = 32 then f_50 else if i = 33 then f_49 else fI i) fL ++ kWo cI k1) H := hB
  replace hB := hB.rear0
  exact hnext (fun i => if i = 31 then v_48 else vI i) vL (fun i => if i = 32 then f_50 else if i = 33 then f_49 else fI i) fL fk (some (d.1, (fun i => if i = 0 then v_37 else if i = 1 then v_38 else if i = 2 then v_39 else if i = 3 then v_40 else v_41), (fun i => if i = 0 then f_46 else if i = 1 then f_42 else if i = 2 then f_43 else if i = 3 then f_44 else f_45))) k1 H locs _ _ ls ⟨hR.1, hR.2.1, hR.2.2.1, hR.2.2.2.1, ⟨by have h := hR.2.2.2.2.1; rw [hk0] at h; exact h, hR.2.2.2.2.2.1, hR.2.2.2.2.2.2.1, hw.2.1, hw.2.2⟩⟩ hB hS (by omega) (by omega) hl
set_option maxHeartbeats 8000000 in
set_option maxRecDepth 100000 in
theorem law_keepS1 (hsm : S_keepS1) {p : Program} {e : Env} {s : State} {m : MethodId} {below : List Frame} {meth : Method} {c : Code} {b L : Nat} {xs : Nat → Int32} (C0 : lw_At p s m meth c b L xs) (l : Launch) (D : va_G) (cI cJ cZ cR : ClassId) (hK : va_K D kCl (kTy cI cJ cZ cR) s) (a : Nat → Nat) (vI : Nat → Int32) (vL : Nat → Int64) (fI : Nat → Nat → Int32) (fL : Nat → Nat → Int64) (fk : Nat → Option Nat) (k0 k1 : Option KD) (hR : RR vI fI fk k0 k1) {H : Heap} {locs : List Loc} {nc ns : Nat} (hc : nc + 7 ≤ 600000) (hs : ns + 55 ≤ 7302249) (hB : kX D (fun q : Nat => s.heap.size ≤ q) (lwX cI cJ cZ cR a vI vL fI fL fk) (lwM cI cJ cZ a vI vL fI fL ++ (kWo cI k0 ++ kWo cI k1)) H) (hS : va_S (fun q : Nat => s.heap.size ≤ q) s.heap H locs) {ls : Array Slot} {x3 : Int32} (hl : lv_has ls 4 [(0, .ref b), (1, .ref (a 0)), (2, .ref (a 40)), (3, .int x3)]) (h1 : vp_in (x3 + (1 : Int32)) L) (h2 : vp_in (x3 + (2 : Int32)) L) (h3 : vp_in (x3 + (3 : Int32)) L) (hp : (xs (x3 + (1 : Int32)).toNatClampNeg) = 1) (d : KD) (hk0 : k1 = some d) (hnext : ∀ (vI : Nat → Int32) (vL : Nat → Int64) (fI : Nat → Nat → Int32) (fL : Nat → Nat → Int64) (fk : Nat → Option Nat) (k0 k1 : Option KD) (H : Heap) (locs : List Loc) (nc2 ns2 : Nat) (ls : Array Slot), RR vI fI fk k0 k1 → kX D (fun q : Nat => s.heap.size ≤ q) (lwX cI cJ cZ cR a vI vL fI fL fk) (lwM cI cJ cZ a vI vL fI fL ++ (kWo cI k0 ++ kWo cI k1)) H → va_S (fun q : Nat => s.heap.size ≤ q) s.heap H locs → nc2 ≤ nc + 7 → ns2 ≤ ns + 55 → lv_has ls 4 [(0, .ref b), (1, .ref (a 0)), (2, .ref (a 40)), (3, .int x3)] → W p l e room_1 s m #[Value.ref b] below meth c H locs nc2 ns2 (lw_Z below #[Value.ref b] s) (F0 m 842 ls [])) : W p l e room_1 s m #[Value.ref b] below meth c H locs nc ns (lw_Z below #[Value.ref b] s) (F0 m 796 ls []) := by
  obtain ⟨hx, hb, hr, hml, hown0, hts, hX, hbl, hlocks, hgv⟩ := C0
  have hown : s.vm.findClass RL = some m.cls := hown0
  have ht : ∀ w ∈ kTb, w.before #[Value.ref b] s = true := fun w h => hts w (kTb_lw w h)
  have hN : kN s := kN.of hts
  have hA : ∀ q : Nat, s.heap.size ≤ q → (fun q : Nat => s.heap.size ≤ q) q := fun _ h => h
  have hbA : ¬ (fun q : Nat => s.heap.size ≤ q) b := Nat.not_le.mpr hbl
  have hpc : (xs (x3 + (1 : Int32)).toNatClampNeg).toNatClampNeg = 1 := by rw [hp]; rfl
  have hk : fk (xs (x3 + (1 : Int32)).toNatClampNeg).toNatClampNeg = some (d.1 0) := by rw [hpc]; have h := hR.2.2.2.2.2.1; rw [hk0] at h; exact h
  rw [hk0] at hB
  replace hB := hB.front1
  replace hB : kX D (fun q : Nat => s.heap.size ≤ q) (lwX cI cJ cZ cR a vI vL fI fL fk ++ kW cI d) (lwM cI cJ cZ a vI vL fI fL ++ kWo cI k0) H := hB
  refine lv_aload_n hx hb dL_law_796 rfl (lv_at hl 1 rfl) ?_
  refine lv_aload_n hx hb dL_law_797 rfl (lv_at hl 0 rfl) ?_
  refine lv_iload_n hx hb dL_law_798 rfl (lv_at hl 3 rfl) ?_
  refine lv_iconst (v := (1 : Int32)) hx hb dL_law_799 (by decide) ?_
  refine lv_iadd hx hb dL_law_800 ?_
  refine va_sld hx hb hX hbl hbA hS h1 dL_law_801 ?_
  have hw := hsm (xs (x3 + (1 : Int32)).toNatClampNeg) (vI 8) (vI 9) (vI 10) (vI 11) (vI 12) (fI 6) (fI 7) (fI 8) (fI 9) (fI 10) (vI 34) (vI 35) (vI 36) (vI 37) (vI 38) (vI 39) (fI 33) (fI 25) (fI 32) (fI 22) (fI 23) (fI 24) (vI 0) (vI 13) (fI 11) (fI 12) (fI 13) fk hR.2.1 k0 k1 hR.2.2.2.2 d hk0 hp
  refine kSi10 (kRV hx hb hml hown ht hN hK hB.1 hB.2.1 (c_X10_keepS l D cI cJ cZ cR (a 0) (a 1) (a 3) (a 4) (a 11) (a 18) (a 19) (a 24) (a 25) (a 30) (a 36) (d.1 0) (d.1 1) (d.1 2) (a 12) (a 17) (d.1 3) (d.1 4) (d.1 5) (d.1 6) (a 13) (a 14) (a 15) (a 16) (vI 0) fk (d.2.1 0) (d.2.1 1) (vI 8) (vI 9) (d.2.1 2) (d.2.1 3) (d.2.1 4) (vI 10) (vI 11) (vI 12) (fI 6) (d.2.2 1) (fI 7) (d.2.2 2) (fI 8) (d.2.2 3) (fI 9) (d.2.2 4) (fI 10) (d.2.2 0) (xs (x3 + (1 : Int32)).toNatClampNeg) hk _ hw) [0, 18, 40, 11, 41, 12, 13, 42, 14, 43, 15, 44, 16, 45, 17, 46] rfl rfl (T := TX10) (N := 11) rfl rfl mw_793 mw_794 mw_795 mw_1 mw_796 hdX10_keepS ⟨Nat.le_of_ble_eq_true rfl, Nat.le_of_ble_eq_true rfl⟩ ⟨rfl, rfl⟩ hl.1 rfl (Nat.le_of_ble_eq_true rfl) dL_law_802 (kRoom (by omega) (by omega))) hB hS hA [0, 18, 40, 11, 41, 12, 13, 42, 14, 43, 15, 44, 16, 45, 17, 46] rfl (fun _ _ _ _ _ _ _ _ _ _ => rfl) (fun r_51 v_52 v_53 v_54 v_55 v_56 f_57 f_58 f_59 f_60 f_61 H locs hw hB hS => ?_)
  refine lv_aload_n hx hb dL_law_805 rfl (lv_at hl 2 rfl) ?_
  refine lv_aload_n hx hb dL_law_806 rfl (lv_at hl 0 rfl) ?_
  refine lv_iload_n hx hb dL_law_807 rfl (lv_at hl 3 rfl) ?_
  refine lv_iconst (v := (1 : Int32)) hx hb dL_law_808 (by decide) ?_
  refine lv_iadd hx hb dL_law_809 ?_
  refine va_sld hx hb hX hbl hbA hS h1 dL_law_810 ?_
  replace hB := hB.turn
  refine kSi3 (kRV hx hb hml hown ht hN hK hB.1 hB.2.1 (c_X11_keep l D cI cJ cZ cR (a 40) (a 41) (a 42) (a 43) (a 44) (a 45) (a 46) (a 47) (a 48) (a 49) (a 50) (a 51) (a 52) (a 53) (a 54) (a 55) (a 56) (a 57) (a 58) (a 59) (a 60) (vI 31) (vI 32) (vI 33) (vI 34) (vI 35) (vI 36) (vI 37) (vI 38) (vI 39) (vI 40) (vI 41) (vI 42) (vI 43) (vI 44) (vI 45) (vI 46) (vI 47) (fI 33) (fI 25) (fI 32) (fI 22) (fI 23) (fI 24) (xs (x3 + (1 : Int32)).toNatClampNeg) _ hw) [0, 13, 5, 12, 2, 3, 4] rfl rfl (T := TX11) (N := 37) rfl rfl mw_1168 mw_1169 mw_1170 mw_11 mw_1171 hdX11_keep ⟨Nat.le_of_ble_eq_true rfl, Nat.le_of_ble_eq_true rfl⟩ ⟨rfl, rfl⟩ hl.1 rfl (Nat.le_of_ble_eq_true rfl) dL_law_811 (kRoom (by omega) (by omega))) hB hS hA [0, 13, 5, 12, 2, 3, 4] rfl (fun _ _ _ => rfl) (fun r_62 v_63 f_64 f_65 H locs hw hB hS => ?_)
  replace hB := hB.turn
  refine lv_icmp_eq (tgt := 842) hx hb dL_law_814 (by decide) (fun _ => ?_) (fun z => absurd hw.1 z)
  replace hB : kX D (fun q : Nat => s.heap.size ≤ q) (lwX cI cJ cZ cR a (fun i => if i = 31 then v_63 else vI i) vL (fun i => if i = 32 then f_65 else if i = 33 then f_64 else fI i) fL fk ++ kW cI (d.1, (fun i => if i = 0 then v_52 else if i = 1 then v_53 else if i = 2 then v_54 else if i = 3 then v_55 else v_56), (fun i => if i = 0 then f_61 else if i = 1 then f_57 else if i = 2 then f_58 else if i = 3 then f_59 else f_60))) (lwM cI cJ cZ a (fun i => if i = 31 then v_63 else vI i) vL (fun i => if i = 32 then f_65 else if i = 33 then f_64 else fI i) fL ++ kWo cI k0) H := hB
  replace hB := hB.rear1
  exact hnext (fun i => if i = 31 then v_63 else vI i) vL (fun i => if i = 32 then f_65 else if i = 33 then f_64 else fI i) fL fk k0 (some (d.1, (fun i => if i = 0 then v_52 else if i = 1 then v_53 else if i = 2 then v_54 else if i = 3 then v_55 else v_56), (fun i => if i = 0 then f_61 else if i = 1 then f_57 else if i = 2 then f_58 else if i = 3 then f_59 else f_60))) H locs _ _ ls ⟨hR.1, hR.2.1, hR.2.2.1, hR.2.2.2.1, ⟨hR.2.2.2.2.1, by have h := hR.2.2.2.2.2.1; rw [hk0] at h; exact h, hR.2.2.2.2.2.2.1, hw.2.1, hw.2.2⟩⟩ hB hS (by omega) (by omega) hl
set_option maxHeartbeats 8000000 in
set_option maxRecDepth 100000 in
theorem law_againU (hsm : S_againU) {p : Program} {e : Env} {s : State} {m : MethodId} {below : List Frame} {meth : Method} {c : Code} {b L : Nat} {xs : Nat → Int32} (C0 : lw_At p s m meth c b L xs) (l : Launch) (D : va_G) (cI cJ cZ cR : ClassId) (hK : va_K D kCl (kTy cI cJ cZ cR) s) (a : Nat → Nat) (vI : Nat → Int32) (vL : Nat → Int64) (fI : Nat → Nat → Int32) (fL : Nat → Nat → Int64) (fk : Nat → Option Nat) (k0 k1 : Option KD) (hR : RR vI fI fk k0 k1) {H : Heap} {locs : List Loc} {nc ns : Nat} (hc : nc + 7 ≤ 600000) (hs : ns + 55 ≤ 7302249) (hB : kX D (fun q : Nat => s.heap.size ≤ q) (lwX cI cJ cZ cR a vI vL fI fL fk) (lwM cI cJ cZ a vI vL fI fL ++ (kWo cI k0 ++ kWo cI k1)) H) (hS : va_S (fun q : Nat => s.heap.size ≤ q) s.heap H locs) {ls : Array Slot} {x3 : Int32} (hl : lv_has ls 4 [(0, .ref b), (1, .ref (a 0)), (2, .ref (a 40)), (3, .int x3)]) (h1 : vp_in (x3 + (1 : Int32)) L) (h2 : vp_in (x3 + (2 : Int32)) L) (h3 : vp_in (x3 + (3 : Int32)) L) (hu : ¬ (xs (x3 + (1 : Int32)).toNatClampNeg) < 0 → ¬ (xs (x3 + (1 : Int32)).toNatClampNeg) < 2) (hnext : ∀ (vI : Nat → Int32) (vL : Nat → Int64) (fI : Nat → Nat → Int32) (fL : Nat → Nat → Int64) (fk : Nat → Option Nat) (k0 k1 : Option KD) (H : Heap) (locs : List Loc) (nc2 ns2 : Nat) (ls : Array Slot), RR vI fI fk k0 k1 → kX D (fun q : Nat => s.heap.size ≤ q) (lwX cI cJ cZ cR a vI vL fI fL fk) (lwM cI cJ cZ a vI vL fI fL ++ (kWo cI k0 ++ kWo cI k1)) H → va_S (fun q : Nat => s.heap.size ≤ q) s.heap H locs → nc2 ≤ nc + 7 → ns2 ≤ ns + 55 → lv_has ls 4 [(0, .ref b), (1, .ref (a 0)), (2, .ref (a 40)), (3, .int x3)] → W p l e room_1 s m #[Value.ref b] below meth c H locs nc2 ns2 (lw_Z below #[Value.ref b] s) (F0 m 842 ls [])) : W p l e room_1 s m #[Value.ref b] below meth c H locs nc ns (lw_Z below #[Value.ref b] s) (F0 m 819 ls []) := by
  obtain ⟨hx, hb, hr, hml, hown0, hts, hX, hbl, hlocks, hgv⟩ := C0
  have hown : s.vm.findClass RL = some m.cls := hown0
  have ht : ∀ w ∈ kTb, w.before #[Value.ref b] s = true := fun w h => hts w (kTb_lw w h)
  have hN : kN s := kN.of hts
  have hA : ∀ q : Nat, s.heap.size ≤ q → (fun q : Nat => s.heap.size ≤ q) q := fun _ h => h
  have hbA : ¬ (fun q : Nat => s.heap.size ≤ q) b := Nat.not_le.mpr hbl
  refine lv_aload_n hx hb dL_law_819 rfl (lv_at hl 1 rfl) ?_
  refine lv_aload_n hx hb dL_law_820 rfl (lv_at hl 0 rfl) ?_
  refine lv_iload_n hx hb dL_law_821 rfl (lv_at hl 3 rfl) ?_
  refine lv_iconst (v := (1 : Int32)) hx hb dL_law_822 (by decide) ?_
  refine lv_iadd hx hb dL_law_823 ?_
  refine va_sld hx hb hX hbl hbA hS h1 dL_law_824 ?_
  have hw := hsm (xs (x3 + (1 : Int32)).toNatClampNeg) (vI 34) (vI 35) (vI 36) (vI 37) (vI 38) (vI 39) (fI 33) (fI 32) (fI 25) (fI 22) (fI 23) (fI 24) (vI 10) (vI 11) (vI 12) (vI 8) (vI 9) (fI 6) (fI 7) (fI 8) (fI 9) (fI 10) (vI 0) (vI 13) (fI 11) (fI 12) (fI 13) fk hR.2.1 k0 k1 hR.2.2.2.2 hu
  refine kSi0 (kRV hx hb hml hown ht hN hK hB.1 hB.2.1 (c_X10_againU l D cI cJ cZ cR (a 0) (a 1) (a 3) (a 4) (a 11) (a 18) (a 19) (a 24) (a 25) (a 30) (a 36) (vI 0) fk (xs (x3 + (1 : Int32)).toNatClampNeg) hu _ hw) [0, 18] rfl rfl (T := TX10) (N := 11) rfl rfl mw_797 mw_798 mw_799 mw_1 mw_800 hdX10_againU ⟨Nat.le_of_ble_eq_true rfl, Nat.le_of_ble_eq_true rfl⟩ ⟨rfl, rfl⟩ hl.1 rfl (Nat.le_of_ble_eq_true rfl) dL_law_825 (kRoom (by omega) (by omega))) hB hS hA [0, 18] rfl rfl (fun r_1 H locs hw hB hS => ?_)
  refine lv_aload_n hx hb dL_law_828 rfl (lv_at hl 2 rfl) ?_
  refine lv_aload_n hx hb dL_law_829 rfl (lv_at hl 0 rfl) ?_
  refine lv_iload_n hx hb dL_law_830 rfl (lv_at hl 3 rfl) ?_
  refine lv_iconst (v := (1 : Int32)) hx hb dL_law_831 (by decide) ?_
  refine lv_iadd hx hb dL_law_832 ?_
  refine va_sld hx hb hX hbl hbA hS h1 dL_law_833 ?_
  replace hB := hB.turn
  refine kSi11 (kRV hx hb hml hown ht hN hK hB.1 hB.2.1 (c_X11_again l D cI cJ cZ cR (a 40) (a 41) (a 42) (a 43) (a 44) (a 45) (a 46) (a 47) (a 48) (a 49) (a 50) (a 51) (a 52) (a 53) (a 54) (a 55) (a 56) (a 57) (a 58) (a 59) (a 60) (vI 31) (vI 32) (vI 33) (vI 34) (vI 35) (vI 36) (vI 37) (vI 38) (vI 39) (vI 40) (vI 41) (vI 42) (vI 43) (vI 44) (vI 45) (vI 46) (vI 47) (fI 33) (fI 32) (fI 25) (fI 22) (fI 23) (fI 24) (xs (x3 + (1 : Int32)).toNatClampNeg) _ hw) [0, 13, 12, 5, 2, 3, 4] rfl rfl (T := TX11) (N := 37) rfl rfl mw_1172 mw_1173 mw_1174 mw_11 mw_1175 hdX11_again ⟨Nat.le_of_ble_eq_true rfl, Nat.le_of_ble_eq_true rfl⟩ ⟨rfl, rfl⟩ hl.1 rfl (Nat.le_of_ble_eq_true rfl) dL_law_834 (kRoom (by omega) (by omega))) hB hS hA [0, 13, 12, 5, 2, 3, 4] rfl (fun _ _ _ _ _ _ _ _ _ _ _ => rfl) (fun r_2 v_3 v_4 v_5 v_6 v_7 v_8 v_9 f_10 f_11 f_12 f_13 H locs hw hB hS => ?_)
  replace hB := hB.turn
  refine lv_icmp_eq (tgt := 842) hx hb dL_law_837 (by decide) (fun _ => ?_) (fun z => absurd hw.1 z)
  exact hnext (fun i => if i = 31 then v_3 else if i = 34 then v_4 else if i = 35 then v_5 else if i = 36 then v_6 else if i = 37 then v_7 else if i = 38 then v_8 else if i = 39 then v_9 else vI i) vL (fun i => if i = 22 then f_11 else if i = 23 then f_12 else if i = 24 then f_13 else if i = 25 then f_10 else fI i) fL fk k0 k1 H locs _ _ ls ⟨hR.1, hw.2, hR.2.2.1, hR.2.2.2.1, hR.2.2.2.2⟩ hB hS (by omega) (by omega) hl
set_option maxHeartbeats 8000000 in
set_option maxRecDepth 100000 in
theorem law_againN0 (hsm : S_againN0) {p : Program} {e : Env} {s : State} {m : MethodId} {below : List Frame} {meth : Method} {c : Code} {b L : Nat} {xs : Nat → Int32} (C0 : lw_At p s m meth c b L xs) (l : Launch) (D : va_G) (cI cJ cZ cR : ClassId) (hK : va_K D kCl (kTy cI cJ cZ cR) s) (a : Nat → Nat) (vI : Nat → Int32) (vL : Nat → Int64) (fI : Nat → Nat → Int32) (fL : Nat → Nat → Int64) (fk : Nat → Option Nat) (k0 k1 : Option KD) (hR : RR vI fI fk k0 k1) {H : Heap} {locs : List Loc} {nc ns : Nat} (hc : nc + 7 ≤ 600000) (hs : ns + 55 ≤ 7302249) (hB : kX D (fun q : Nat => s.heap.size ≤ q) (lwX cI cJ cZ cR a vI vL fI fL fk) (lwM cI cJ cZ a vI vL fI fL ++ (kWo cI k0 ++ kWo cI k1)) H) (hS : va_S (fun q : Nat => s.heap.size ≤ q) s.heap H locs) {ls : Array Slot} {x3 : Int32} (hl : lv_has ls 4 [(0, .ref b), (1, .ref (a 0)), (2, .ref (a 40)), (3, .int x3)]) (h1 : vp_in (x3 + (1 : Int32)) L) (h2 : vp_in (x3 + (2 : Int32)) L) (h3 : vp_in (x3 + (3 : Int32)) L) (hp : (xs (x3 + (1 : Int32)).toNatClampNeg) = 0) (hk0 : k0 = none) (hnext : ∀ (vI : Nat → Int32) (vL : Nat → Int64) (fI : Nat → Nat → Int32) (fL : Nat → Nat → Int64) (fk : Nat → Option Nat) (k0 k1 : Option KD) (H : Heap) (locs : List Loc) (nc2 ns2 : Nat) (ls : Array Slot), RR vI fI fk k0 k1 → kX D (fun q : Nat => s.heap.size ≤ q) (lwX cI cJ cZ cR a vI vL fI fL fk) (lwM cI cJ cZ a vI vL fI fL ++ (kWo cI k0 ++ kWo cI k1)) H → va_S (fun q : Nat => s.heap.size ≤ q) s.heap H locs → nc2 ≤ nc + 7 → ns2 ≤ ns + 55 → lv_has ls 4 [(0, .ref b), (1, .ref (a 0)), (2, .ref (a 40)), (3, .int x3)] → W p l e room_1 s m #[Value.ref b] below meth c H locs nc2 ns2 (lw_Z below #[Value.ref b] s) (F0 m 842 ls [])) : W p l e room_1 s m #[Value.ref b] below meth c H locs nc ns (lw_Z below #[Value.ref b] s) (F0 m 819 ls []) := by
  obtain ⟨hx, hb, hr, hml, hown0, hts, hX, hbl, hlocks, hgv⟩ := C0
  have hown : s.vm.findClass RL = some m.cls := hown0
  have ht : ∀ w ∈ kTb, w.before #[Value.ref b] s = true := fun w h => hts w (kTb_lw w h)
  have hN : kN s := kN.of hts
  have hA : ∀ q : Nat, s.heap.size ≤ q → (fun q : Nat => s.heap.size ≤ q) q := fun _ h => h
  have hbA : ¬ (fun q : Nat => s.heap.size ≤ q) b := Nat.not_le.mpr hbl
  have hpc : (xs (x3 + (1 : Int32)).toNatClampNeg).toNatClampNeg = 0 := by rw [hp]; rfl
  have hk : fk (xs (x3 + (1 : Int32)).toNatClampNeg).toNatClampNeg = none := by rw [hpc]; have h := hR.2.2.2.2.1; rw [hk0] at h; exact h
  refine lv_aload_n hx hb dL_law_819 rfl (lv_at hl 1 rfl) ?_
  refine lv_aload_n hx hb dL_law_820 rfl (lv_at hl 0 rfl) ?_
  refine lv_iload_n hx hb dL_law_821 rfl (lv_at hl 3 rfl) ?_
  refine lv_iconst (v := (1 : Int32)) hx hb dL_law_822 (by decide) ?_
  refine lv_iadd hx hb dL_law_823 ?_
  refine va_sld hx hb hX hbl hbA hS h1 dL_law_824 ?_
  have hw := hsm (xs (x3 + (1 : Int32)).toNatClampNeg) (vI 34) (vI 35) (vI 36) (vI 37) (vI 38) (vI 39) (fI 33) (fI 32) (fI 25) (fI 22) (fI 23) (fI 24) (vI 10) (vI 11) (vI 12) (vI 8) (vI 9) (fI 6) (fI 7) (fI 8) (fI 9) (fI 10) (vI 0) (vI 13) (fI 11) (fI 12) (fI 13) fk hR.2.1 k0 k1 hR.2.2.2.2 hk0 hp
  refine kSi0 (kRV hx hb hml hown ht hN hK hB.1 hB.2.1 (c_X10_againN l D cI cJ cZ cR (a 0) (a 1) (a 3) (a 4) (a 11) (a 18) (a 19) (a 24) (a 25) (a 30) (a 36) (vI 0) fk (xs (x3 + (1 : Int32)).toNatClampNeg) hk _ hw) [0, 18] rfl rfl (T := TX10) (N := 11) rfl rfl mw_797 mw_798 mw_799 mw_1 mw_800 hdX10_againN ⟨Nat.le_of_ble_eq_true rfl, Nat.le_of_ble_eq_true rfl⟩ ⟨rfl, rfl⟩ hl.1 rfl (Nat.le_of_ble_eq_true rfl) dL_law_825 (kRoom (by omega) (by omega))) hB hS hA [0, 18] rfl rfl (fun r_14 H locs hw hB hS => ?_)
  refine lv_aload_n hx hb dL_law_828 rfl (lv_at hl 2 rfl) ?_
  refine lv_aload_n hx hb dL_law_829 rfl (lv_at hl 0 rfl) ?_
  refine lv_iload_n hx hb dL_law_830 rfl (lv_at hl 3 rfl) ?_
  refine lv_iconst (v := (1 : Int32)) hx hb dL_law_831 (by decide) ?_
  refine lv_iadd hx hb dL_law_832 ?_
  refine va_sld hx hb hX hbl hbA hS h1 dL_law_833 ?_
  replace hB := hB.turn
  refine kSi11 (kRV hx hb hml hown ht hN hK hB.1 hB.2.1 (c_X11_again l D cI cJ cZ cR (a 40) (a 41) (a 42) (a 43) (a 44) (a 45) (a 46) (a 47) (a 48) (a 49) (a 50) (a 51) (a 52) (a 53) (a 54) (a 55) (a 56) (a 57) (a 58) (a 59) (a 60) (vI 31) (vI 32) (vI 33) (vI 34) (vI 35) (vI 36) (vI 37) (vI 38) (vI 39) (vI 40) (vI 41) (vI 42) (vI 43) (vI 44) (vI 45) (vI 46) (vI 47) (fI 33) (fI 32) (fI 25) (fI 22) (fI 23) (fI 24) (xs (x3 + (1 : Int32)).toNatClampNeg) _ hw) [0, 13, 12, 5, 2, 3, 4] rfl rfl (T := TX11) (N := 37) rfl rfl mw_1172 mw_1173 mw_1174 mw_11 mw_1175 hdX11_again ⟨Nat.le_of_ble_eq_true rfl, Nat.le_of_ble_eq_true rfl⟩ ⟨rfl, rfl⟩ hl.1 rfl (Nat.le_of_ble_eq_true rfl) dL_law_834 (kRoom (by omega) (by omega))) hB hS hA [0, 13, 12, 5, 2, 3, 4] rfl (fun _ _ _ _ _ _ _ _ _ _ _ => rfl) (fun r_15 v_16 v_17 v_18 v_19 v_20 v_21 v_22 f_23 f_24 f_25 f_26 H locs hw hB hS => ?_)
  replace hB := hB.turn
  refine lv_icmp_eq (tgt := 842) hx hb dL_law_837 (by decide) (fun _ => ?_) (fun z => absurd hw.1 z)
  exact hnext (fun i => if i = 31 then v_16 else if i = 34 then v_17 else if i = 35 then v_18 else if i = 36 then v_19 else if i = 37 then v_20 else if i = 38 then v_21 else if i = 39 then v_22 else vI i) vL (fun i => if i = 22 then f_24 else if i = 23 then f_25 else if i = 24 then f_26 else if i = 25 then f_23 else fI i) fL fk k0 k1 H locs _ _ ls ⟨hR.1, hw.2, hR.2.2.1, hR.2.2.2.1, hR.2.2.2.2⟩ hB hS (by omega) (by omega) hl
set_option maxHeartbeats 8000000 in
set_option maxRecDepth 100000 in
theorem law_againN1 (hsm : S_againN1) {p : Program} {e : Env} {s : State} {m : MethodId} {below : List Frame} {meth : Method} {c : Code} {b L : Nat} {xs : Nat → Int32} (C0 : lw_At p s m meth c b L xs) (l : Launch) (D : va_G) (cI cJ cZ cR : ClassId) (hK : va_K D kCl (kTy cI cJ cZ cR) s) (a : Nat → Nat) (vI : Nat → Int32) (vL : Nat → Int64) (fI : Nat → Nat → Int32) (fL : Nat → Nat → Int64) (fk : Nat → Option Nat) (k0 k1 : Option KD) (hR : RR vI fI fk k0 k1) {H : Heap} {locs : List Loc} {nc ns : Nat} (hc : nc + 7 ≤ 600000) (hs : ns + 55 ≤ 7302249) (hB : kX D (fun q : Nat => s.heap.size ≤ q) (lwX cI cJ cZ cR a vI vL fI fL fk) (lwM cI cJ cZ a vI vL fI fL ++ (kWo cI k0 ++ kWo cI k1)) H) (hS : va_S (fun q : Nat => s.heap.size ≤ q) s.heap H locs) {ls : Array Slot} {x3 : Int32} (hl : lv_has ls 4 [(0, .ref b), (1, .ref (a 0)), (2, .ref (a 40)), (3, .int x3)]) (h1 : vp_in (x3 + (1 : Int32)) L) (h2 : vp_in (x3 + (2 : Int32)) L) (h3 : vp_in (x3 + (3 : Int32)) L) (hp : (xs (x3 + (1 : Int32)).toNatClampNeg) = 1) (hk0 : k1 = none) (hnext : ∀ (vI : Nat → Int32) (vL : Nat → Int64) (fI : Nat → Nat → Int32) (fL : Nat → Nat → Int64) (fk : Nat → Option Nat) (k0 k1 : Option KD) (H : Heap) (locs : List Loc) (nc2 ns2 : Nat) (ls : Array Slot), RR vI fI fk k0 k1 → kX D (fun q : Nat => s.heap.size ≤ q) (lwX cI cJ cZ cR a vI vL fI fL fk) (lwM cI cJ cZ a vI vL fI fL ++ (kWo cI k0 ++ kWo cI k1)) H → va_S (fun q : Nat => s.heap.size ≤ q) s.heap H locs → nc2 ≤ nc + 7 → ns2 ≤ ns + 55 → lv_has ls 4 [(0, .ref b), (1, .ref (a 0)), (2, .ref (a 40)), (3, .int x3)] → W p l e room_1 s m #[Value.ref b] below meth c H locs nc2 ns2 (lw_Z below #[Value.ref b] s) (F0 m 842 ls [])) : W p l e room_1 s m #[Value.ref b] below meth c H locs nc ns (lw_Z below #[Value.ref b] s) (F0 m 819 ls []) := by
  obtain ⟨hx, hb, hr, hml, hown0, hts, hX, hbl, hlocks, hgv⟩ := C0
  have hown : s.vm.findClass RL = some m.cls := hown0
  have ht : ∀ w ∈ kTb, w.before #[Value.ref b] s = true := fun w h => hts w (kTb_lw w h)
  have hN : kN s := kN.of hts
  have hA : ∀ q : Nat, s.heap.size ≤ q → (fun q : Nat => s.heap.size ≤ q) q := fun _ h => h
  have hbA : ¬ (fun q : Nat => s.heap.size ≤ q) b := Nat.not_le.mpr hbl
  have hpc : (xs (x3 + (1 : Int32)).toNatClampNeg).toNatClampNeg = 1 := by rw [hp]; rfl
  have hk : fk (xs (x3 + (1 : Int32)).toNatClampNeg).toNatClampNeg = none := by rw [hpc]; have h := hR.2.2.2.2.2.1; rw [hk0] at h; exact h
  refine lv_aload_n hx hb dL_law_819 rfl (lv_at hl 1 rfl) ?_
  refine lv_aload_n hx hb dL_law_820 rfl (lv_at hl 0 rfl) ?_
  refine lv_iload_n hx hb dL_law_821 rfl (lv_at hl 3 rfl) ?_
  refine lv_iconst (v := (1 : Int32)) hx hb dL_law_822 (by decide) ?_
  refine lv_iadd hx hb dL_law_823 ?_
  refine va_sld hx hb hX hbl hbA hS h1 dL_law_824 ?_
  have hw := hsm (xs (x3 + (1 : Int32)).toNatClampNeg) (vI 34) (vI 35) (vI 36) (vI 37) (vI 38) (vI 39) (fI 33) (fI 32) (fI 25) (fI 22) (fI 23) (fI 24) (vI 10) (vI 11) (vI 12) (vI 8) (vI 9) (fI 6) (fI 7) (fI 8) (fI 9) (fI 10) (vI 0) (vI 13) (fI 11) (fI 12) (fI 13) fk hR.2.1 k0 k1 hR.2.2.2.2 hk0 hp
  refine kSi0 (kRV hx hb hml hown ht hN hK hB.1 hB.2.1 (c_X10_againN l D cI cJ cZ cR (a 0) (a 1) (a 3) (a 4) (a 11) (a 18) (a 19) (a 24) (a 25) (a 30) (a 36) (vI 0) fk (xs (x3 + (1 : Int32)).toNatClampNeg) hk _ hw) [0, 18] rfl rfl (T := TX10) (N := 11) rfl rfl mw_797 mw_798 mw_799 mw_1 mw_800 hdX10_againN ⟨Nat.le_of_ble_eq_true rfl, Nat.le_of_ble_eq_true rfl⟩ ⟨rfl, rfl⟩ hl.1 rfl (Nat.le_of_ble_eq_true rfl) dL_law_825 (kRoom (by omega) (by omega))) hB hS hA [0, 18] rfl rfl (fun r_27 H locs hw hB hS => ?_)
  refine lv_aload_n hx hb dL_law_828 rfl (lv_at hl 2 rfl) ?_
  refine lv_aload_n hx hb dL_law_829 rfl (lv_at hl 0 rfl) ?_
  refine lv_iload_n hx hb dL_law_830 rfl (lv_at hl 3 rfl) ?_
  refine lv_iconst (v := (1 : Int32)) hx hb dL_law_831 (by decide) ?_
  refine lv_iadd hx hb dL_law_832 ?_
  refine va_sld hx hb hX hbl hbA hS h1 dL_law_833 ?_
  replace hB := hB.turn
  refine kSi11 (kRV hx hb hml hown ht hN hK hB.1 hB.2.1 (c_X11_again l D cI cJ cZ cR (a 40) (a 41) (a 42) (a 43) (a 44) (a 45) (a 46) (a 47) (a 48) (a 49) (a 50) (a 51) (a 52) (a 53) (a 54) (a 55) (a 56) (a 57) (a 58) (a 59) (a 60) (vI 31) (vI 32) (vI 33) (vI 34) (vI 35) (vI 36) (vI 37) (vI 38) (vI 39) (vI 40) (vI 41) (vI 42) (vI 43) (vI 44) (vI 45) (vI 46) (vI 47) (fI 33) (fI 32) (fI 25) (fI 22) (fI 23) (fI 24) (xs (x3 + (1 : Int32)).toNatClampNeg) _ hw) [0, 13, 12, 5, 2, 3, 4] rfl rfl (T := TX11) (N := 37) rfl rfl mw_1172 mw_1173 mw_1174 mw_11 mw_1175 hdX11_again ⟨Nat.le_of_ble_eq_true rfl, Nat.le_of_ble_eq_true rfl⟩ ⟨rfl, rfl⟩ hl.1 rfl (Nat.le_of_ble_eq_true rfl) dL_law_834 (kRoom (by omega) (by omega))) hB hS hA [0, 13, 12, 5, 2, 3, 4] rfl (fun _ _ _ _ _ _ _ _ _ _ _ => rfl) (fun r_28 v_29 v_30 v_31 v_32 v_33 v_34 v_35 f_36 f_37 f_38 f_39 H locs hw hB hS => ?_)
  replace hB := hB.turn
  refine lv_icmp_eq (tgt := 842) hx hb dL_law_837 (by decide) (fun _ => ?_) (fun z => absurd hw.1 z)
  exact hnext (fun i => if i = 31 then v_29 else if i = 34 then v_30 else if i = 35 then v_31 else if i = 36 then v_32 else if i = 37 then v_33 else if i = 38 then v_34 else if i = 39 then v_35 else vI i) vL (fun i => if i = 22 then f_37 else if i = 23 then f_38 else if i = 24 then f_39 else if i = 25 then f_36 else fI i) fL fk k0 k1 H locs _ _ ls ⟨hR.1, hw.2, hR.2.2.1, hR.2.2.2.1, hR.2.2.2.2⟩ hB hS (by omega) (by omega) hl
set_option maxHeartbeats 8000000 in
set_option maxRecDepth 100000 in
theorem law_againS0 (hsm : S_againS0) {p : Program} {e : Env} {s : State} {m : MethodId} {below : List Frame} {meth : Method} {c : Code} {b L : Nat} {xs : Nat → Int32} (C0 : lw_At p s m meth c b L xs) (l : Launch) (D : va_G) (cI cJ cZ cR : ClassId) (hK : va_K D kCl (kTy cI cJ cZ cR) s) (a : Nat → Nat) (vI : Nat → Int32) (vL : Nat → Int64) (fI : Nat → Nat → Int32) (fL : Nat → Nat → Int64) (fk : Nat → Option Nat) (k0 k1 : Option KD) (hR : RR vI fI fk k0 k1) {H : Heap} {locs : List Loc} {nc ns : Nat} (hc : nc + 7 ≤ 600000) (hs : ns + 55 ≤ 7302249) (hB : kX D (fun q : Nat => s.heap.size ≤ q) (lwX cI cJ cZ cR a vI vL fI fL fk) (lwM cI cJ cZ a vI vL fI fL ++ (kWo cI k0 ++ kWo cI k1)) H) (hS : va_S (fun q : Nat => s.heap.size ≤ q) s.heap H locs) {ls : Array Slot} {x3 : Int32} (hl : lv_has ls 4 [(0, .ref b), (1, .ref (a 0)), (2, .ref (a 40)), (3, .int x3)]) (h1 : vp_in (x3 + (1 : Int32)) L) (h2 : vp_in (x3 + (2 : Int32)) L) (h3 : vp_in (x3 + (3 : Int32)) L) (hp : (xs (x3 + (1 : Int32)).toNatClampNeg) = 0) (d : KD) (hk0 : k0 = some d) (hnext : ∀ (vI : Nat → Int32) (vL : Nat → Int64) (fI : Nat → Nat → Int32) (fL : Nat → Nat → Int64) (fk : Nat → Option Nat) (k0 k1 : Option KD) (H : Heap) (locs : List Loc) (nc2 ns2 : Nat) (ls : Array Slot), RR vI fI fk k0 k1 → kX D (fun q : Nat => s.heap.size ≤ q) (lwX cI cJ cZ cR a vI vL fI fL fk) (lwM cI cJ cZ a vI vL fI fL ++ (kWo cI k0 ++ kWo cI k1)) H → va_S (fun q : Nat => s.heap.size ≤ q) s.heap H locs → nc2 ≤ nc + 7 → ns2 ≤ ns + 55 → lv_has ls 4 [(0, .ref b), (1, .ref (a 0)), (2, .ref (a 40)), (3, .int x3)] → W p l e room_1 s m #[Value.ref b] below meth c H locs nc2 ns2 (lw_Z below #[Value.ref b] s) (F0 m 842 ls [])) : W p l e room_1 s m #[Value.ref b] below meth c H locs nc ns (lw_Z below #[Value.ref b] s) (F0 m 819 ls []) := by
  obtain ⟨hx, hb, hr, hml, hown0, hts, hX, hbl, hlocks, hgv⟩ := C0
  have hown : s.vm.findClass RL = some m.cls := hown0
  have ht : ∀ w ∈ kTb, w.before #[Value.ref b] s = true := fun w h => hts w (kTb_lw w h)
  have hN : kN s := kN.of hts
  have hA : ∀ q : Nat, s.heap.size ≤ q → (fun q : Nat => s.heap.size ≤ q) q := fun _ h => h
  have hbA : ¬ (fun q : Nat => s.heap.size ≤ q) b := Nat.not_le.mpr hbl
  have hpc : (xs (x3 + (1 : Int32)).toNatClampNeg).toNatClampNeg = 0 := by rw [hp]; rfl
  have hk : fk (xs (x3 + (1 : Int32)).toNatClampNeg).toNatClampNeg = some (d.1 0) := by rw [hpc]; have h := hR.2.2.2.2.1; rw [hk0] at h; exact h
  rw [hk0] at hB
  replace hB := hB.front0
  replace hB : kX D (fun q : Nat => s.heap.size ≤ q) (lwX cI cJ cZ cR a vI vL fI fL fk ++ kW cI d) (lwM cI cJ cZ a vI vL fI fL ++ kWo cI k1) H := hB
  refine lv_aload_n hx hb dL_law_819 rfl (lv_at hl 1 rfl) ?_
  refine lv_aload_n hx hb dL_law_820 rfl (lv_at hl 0 rfl) ?_
  refine lv_iload_n hx hb dL_law_821 rfl (lv_at hl 3 rfl) ?_
  refine lv_iconst (v := (1 : Int32)) hx hb dL_law_822 (by decide) ?_
  refine lv_iadd hx hb dL_law_823 ?_
  refine va_sld hx hb hX hbl hbA hS h1 dL_law_824 ?_
  have hw := hsm (xs (x3 + (1 : Int32)).toNatClampNeg) (vI 0) (vI 8) (vI 9) (vI 10) (vI 11) (vI 12) (fI 6) (fI 7) (fI 8) (fI 9) (fI 10) (vI 34) (vI 35) (vI 36) (vI 37) (vI 38) (vI 39) (fI 33) (fI 32) (fI 25) (fI 22) (fI 23) (fI 24) (vI 13) (fI 11) (fI 12) (fI 13) fk hR.2.1 k0 k1 hR.2.2.2.2 d hk0 hp
  refine kSi11 (kRV hx hb hml hown ht hN hK hB.1 hB.2.1 (c_X10_againS l D cI cJ cZ cR (a 0) (a 1) (a 3) (a 4) (a 11) (a 18) (a 19) (a 24) (a 25) (a 30) (a 36) (a 12) (a 17) (d.1 0) (d.1 1) (d.1 2) (a 13) (a 14) (a 15) (a 16) (d.1 3) (d.1 4) (d.1 5) (d.1 6) (vI 0) fk (vI 8) (vI 9) (d.2.1 0) (d.2.1 1) (vI 10) (vI 11) (vI 12) (d.2.1 2) (d.2.1 3) (d.2.1 4) (d.2.2 1) (fI 6) (d.2.2 2) (fI 7) (d.2.2 3) (fI 8) (d.2.2 4) (fI 9) (d.2.2 0) (fI 10) (xs (x3 + (1 : Int32)).toNatClampNeg) hk _ hw) [0, 18, 11, 40, 12, 41, 42, 13, 43, 14, 44, 15, 45, 16, 46, 17] rfl rfl (T := TX10) (N := 11) rfl rfl mw_797 mw_798 mw_799 mw_1 mw_800 hdX10_againS ⟨Nat.le_of_ble_eq_true rfl, Nat.le_of_ble_eq_true rfl⟩ ⟨rfl, rfl⟩ hl.1 rfl (Nat.le_of_ble_eq_true rfl) dL_law_825 (kRoom (by omega) (by omega))) hB hS hA [0, 18, 11, 40, 12, 41, 42, 13, 43, 14, 44, 15, 45, 16, 46, 17] rfl (fun _ _ _ _ _ _ _ _ _ _ _ => rfl) (fun r_40 v_41 v_42 v_43 v_44 v_45 v_46 f_47 f_48 f_49 f_50 f_51 H locs hw hB hS => ?_)
  refine lv_aload_n hx hb dL_law_828 rfl (lv_at hl 2 rfl) ?_
  refine lv_aload_n hx hb dL_law_829 rfl (lv_at hl 0 rfl) ?_
  refine lv_iload_n hx hb dL_law_830 rfl (lv_at hl 3 rfl) ?_
  refine lv_iconst (v := (1 : Int32)) hx hb dL_law_831 (by decide) ?_
  refine lv_iadd hx hb dL_law_832 ?_
  refine va_sld hx hb hX hbl hbA hS h1 dL_law_833 ?_
  replace hB := hB.turn
  refine kSi11 (kRV hx hb hml hown ht hN hK hB.1 hB.2.1 (c_X11_again l D cI cJ cZ cR (a 40) (a 41) (a 42) (a 43) (a 44) (a 45) (a 46) (a 47) (a 48) (a 49) (a 50) (a 51) (a 52) (a 53) (a 54) (a 55) (a 56) (a 57) (a 58) (a 59) (a 60) (vI 31) (vI 32) (vI 33) (vI 34) (vI 35) (vI 36) (vI 37) (vI 38) (vI 39) (vI 40) (vI 41) (vI 42) (vI 43) (vI 44) (vI 45) (vI 46) (vI 47) (fI 33) (fI 32) (fI 25) (fI 22) (fI 23) (fI 24) (xs (x3 + (1 : Int32)).toNatClampNeg) _ hw) [0, 13, 12, 5, 2, 3, 4] rfl rfl (T := TX11) (N := 37) rfl rfl mw_1172 mw_1173 mw_1174 mw_11 mw_1175 hdX11_again ⟨Nat.le_of_ble_eq_true rfl, Nat.le_of_ble_eq_true rfl⟩ ⟨rfl, rfl⟩ hl.1 rfl (Nat.le_of_ble_eq_true rfl) dL_law_834 (kRoom (by omega) (by omega))) hB hS hA [0, 13, 12, 5, 2, 3, 4] rfl (fun _ _ _ _ _ _ _ _ _ _ _ => rfl) (fun r_52 v_53 v_54 v_55 v_56 v_57 v_58 v_59 f_60 f_61 f_62 f_63 H locs hw hB hS => ?_)
  replace hB := hB.turn
  refine lv_icmp_eq (tgt := 842) hx hb dL_law_837 (by decide) (fun _ => ?_) (fun z => absurd hw.1 z)
  replace hB : kX D (fun q : Nat => s.heap.size ≤ q) (lwX cI cJ cZ cR a (fun i => if i = 0 then v_41 else if i = 8 then v_42 else if i = 9 then v_43 else if i = 10 then v_44 else if i = 11 then v_45 else if i = 12 then v_46 else if i = 31 then v_53 else if i = 34 then v_54 else if i = 35 then v_55 else if i = 36 then v_56 else if i = 37 then v_57 else if i = 38 then v_58 else if i = 39 then v_59 else vI i) vL (fun i => if i = 6 then f_47 else if i = 7 then f_48 else if i = 8 then f_49 else if i = 9 then f_50 else if i = 10 then f_51 else if i = 22 then f_61 else if i = 23 then f_62 else if i = 24 then f_63 else if i = 25 then f_60 else fI i) fL fk ++ kW cI d) (lwM cI cJ cZ a (fun i => if i = 0 then v_41 else if i = 8 then v_42 else if i = 9 then v_43 else if i = 10 then v_44 else if i = 11 then v_45 else if i = 12 then v_46 else if i = 31 then v_53 else if i = 34 then v_54 else if i = 35 then v_55 else if i = 36 then v_56 else if i = 37 then v_57 else if i = 38 then v_58 else if i = 39 then v_59 else vI i) vL (fun i => if i = 6 then f_47 else if i = 7 then f_48 else if i = 8 then f_49 else if i = 9 then f_50 else if i = 10 then f_51 else if i = 22 then f_61 else if i = 23 then f_62 else if i = 24 then f_63 else if i = 25 then f_60 else fI i) fL ++ kWo cI k1) H := hB
  replace hB := hB.rear0
  rw [show kW cI d = kWo cI (some d) from rfl, ← hk0] at hB
  exact hnext (fun i => if i = 0 then v_41 else if i = 8 then v_42 else if i = 9 then v_43 else if i = 10 then v_44 else if i = 11 then v_45 else if i = 12 then v_46 else if i = 31 then v_53 else if i = 34 then v_54 else if i = 35 then v_55 else if i = 36 then v_56 else if i = 37 then v_57 else if i = 38 then v_58 else if i = 39 then v_59 else vI i) vL (fun i => if i = 6 then f_47 else if i = 7 then f_48 else if i = 8 then f_49 else if i = 9 then f_50 else if i = 10 then f_51 else if i = 22 then f_61 else if i = 23 then f_62 else if i = 24 then f_63 else if i = 25 then f_60 else fI i) fL fk k0 k1 H locs _ _ ls ⟨hR.1, hw.2, hR.2.2.1, hR.2.2.2.1, hR.2.2.2.2⟩ hB hS (by omega) (by omega) hl
set_option maxHeartbeats 8000000 in
set_option maxRecDepth 100000 in
theorem law_againS1 (hsm : S_againS1) {p : Program} {e : Env} {s : State} {m : MethodId} {below : List Frame} {meth : Method} {c : Code} {b L : Nat} {xs : Nat → Int32} (C0 : lw_At p s m meth c b L xs) (l : Launch) (D : va_G) (cI cJ cZ cR : ClassId) (hK : va_K D kCl (kTy cI cJ cZ cR) s) (a : Nat → Nat) (vI : Nat → Int32) (vL : Nat → Int64) (fI : Nat → Nat → Int32) (fL : Nat → Nat → Int64) (fk : Nat → Option Nat) (k0 k1 : Option KD) (hR : RR vI fI fk k0 k1) {H : Heap} {locs : List Loc} {nc ns : Nat} (hc : nc + 7 ≤ 600000) (hs : ns + 55 ≤ 7302249) (hB : kX D (fun q : Nat => s.heap.size ≤ q) (lwX cI cJ cZ cR a vI vL fI fL fk) (lwM cI cJ cZ a vI vL fI fL ++ (kWo cI k0 ++ kWo cI k1)) H) (hS : va_S (fun q : Nat => s.heap.size ≤ q) s.heap H locs) {ls : Array Slot} {x3 : Int32} (hl : lv_has ls 4 [(0, .ref b), (1, .ref (a 0)), (2, .ref (a 40)), (3, .int x3)]) (h1 : vp_in (x3 + (1 : Int32)) L) (h2 : vp_in (x3 + (2 : Int32)) L) (h3 : vp_in (x3 + (3 : Int32)) L) (hp : (xs (x3 + (1 : Int32)).toNatClampNeg) = 1) (d : KD) (hk0 : k1 = some d) (hnext : ∀ (vI : Nat → Int32) (vL : Nat → Int64) (fI : Nat → Nat → Int32) (fL : Nat → Nat → Int64) (fk : Nat → Option Nat) (k0 k1 : Option KD) (H : Heap) (locs : List Loc) (nc2 ns2 : Nat) (ls : Array Slot), RR vI fI fk k0 k1 → kX D (fun q : Nat => s.heap.size ≤ q) (lwX cI cJ cZ cR a vI vL fI fL fk) (lwM cI cJ cZ a vI vL fI fL ++ (kWo cI k0 ++ kWo cI k1)) H → va_S (fun q : Nat => s.heap.size ≤ q) s.heap H locs → nc2 ≤ nc + 7 → ns2 ≤ ns + 55 → lv_has ls 4 [(0, .ref b), (1, .ref (a 0)), (2, .ref (a 40)), (3, .int x3)] → W p l e room_1 s m #[Value.ref b] below meth c H locs nc2 ns2 (lw_Z below #[Value.ref b] s) (F0 m 842 ls [])) : W p l e room_1 s m #[Value.ref b] below meth c H locs nc ns (lw_Z below #[Value.ref b] s) (F0 m 819 ls []) := by
  obtain ⟨hx, hb, hr, hml, hown0, hts, hX, hbl, hlocks, hgv⟩ := C0
  have hown : s.vm.findClass RL = some m.cls := hown0
  have ht : ∀ w ∈ kTb, w.before #[Value.ref b] s = true := fun w h => hts w (kTb_lw w h)
  have hN : kN s := kN.of hts
  have hA : ∀ q : Nat, s.heap.size ≤ q → (fun q : Nat => s.heap.size ≤ q) q := fun _ h => h
  have hbA : ¬ (fun q : Nat => s.heap.size ≤ q) b := Nat.not_le.mpr hbl
  have hpc : (xs (x3 + (1 : Int32)).toNatClampNeg).toNatClampNeg = 1 := by rw [hp]; rfl
  have hk : fk (xs (x3 + (1 : Int32)).toNatClampNeg).toNatClampNeg = some (d.1 0) := by rw [hpc]; have h := hR.2.2.2.2.2.1; rw [hk0] at h; exact h
  rw [hk0] at hB
  replace hB := hB.front1
  replace hB : kX D (fun q : Nat => s.heap.size ≤ q) (lwX cI cJ cZ cR a vI vL fI fL fk ++ kW cI d) (lwM cI cJ cZ a vI vL fI fL ++ kWo cI k0) H := hB
  refine lv_aload_n hx hb dL_law_819 rfl (lv_at hl 1 rfl) ?_
  refine lv_aload_n hx hb dL_law_820 rfl (lv_at hl 0 rfl) ?_
  refine lv_iload_n hx hb dL_law_821 rfl (lv_at hl 3 rfl) ?_
  refine lv_iconst (v := (1 : Int32)) hx hb dL_law_822 (by decide) ?_
  refine lv_iadd hx hb dL_law_823 ?_
  refine va_sld hx hb hX hbl hbA hS h1 dL_law_824 ?_
  have hw := hsm (xs (x3 + (1 : Int32)).toNatClampNeg) (vI 0) (vI 8) (vI 9) (vI 10) (vI 11) (vI 12) (fI 6) (fI 7) (fI 8) (fI 9) (fI 10) (vI 34) (vI 35) (vI 36) (vI 37) (vI 38) (vI 39) (fI 33) (fI 32) (fI 25) (fI 22) (fI 23) (fI 24) (vI 13) (fI 11) (fI 12) (fI 13) fk hR.2.1 k0 k1 hR.2.2.2.2 d hk0 hp
  refine kSi11 (kRV hx hb hml hown ht hN hK hB.1 hB.2.1 (c_X10_againS l D cI cJ cZ cR (a 0) (a 1) (a 3) (a 4) (a 11) (a 18) (a 19) (a 24) (a 25) (a 30) (a 36) (a 12) (a 17) (d.1 0) (d.1 1) (d.1 2) (a 13) (a 14) (a 15) (a 16) (d.1 3) (d.1 4) (d.1 5) (d.1 6) (vI 0) fk (vI 8) (vI 9) (d.2.1 0) (d.2.1 1) (vI 10) (vI 11) (vI 12) (d.2.1 2) (d.2.1 3) (d.2.1 4) (d.2.2 1) (fI 6) (d.2.2 2) (fI 7) (d.2.2 3) (fI 8) (d.2.2 4) (fI 9) (d.2.2 0) (fI 10) (xs (x3 + (1 : Int32)).toNatClampNeg) hk _ hw) [0, 18, 11, 40, 12, 41, 42, 13, 43, 14, 44, 15, 45, 16, 46, 17] rfl rfl (T := TX10) (N := 11) rfl rfl mw_797 mw_798 mw_799 mw_1 mw_800 hdX10_againS ⟨Nat.le_of_ble_eq_true rfl, Nat.le_of_ble_eq_true rfl⟩ ⟨rfl, rfl⟩ hl.1 rfl (Nat.le_of_ble_eq_true rfl) dL_law_825 (kRoom (by omega) (by omega))) hB hS hA [0, 18, 11, 40, 12, 41, 42, 13, 43, 14, 44, 15, 45, 16, 46, 17] rfl (fun _ _ _ _ _ _ _ _ _ _ _ => rfl) (fun r_64 v_65 v_66 v_67 v_68 v_69 v_70 f_71 f_72 f_73 f_74 f_75 H locs hw hB hS => ?_)
  refine lv_aload_n hx hb dL_law_828 rfl (lv_at hl 2 rfl) ?_
  refine lv_aload_n hx hb dL_law_829 rfl (lv_at hl 0 rfl) ?_
  refine lv_iload_n hx hb dL_law_830 rfl (lv_at hl 3 rfl) ?_
  refine lv_iconst (v := (1 : Int32)) hx hb dL_law_831 (by decide) ?_
  refine lv_iadd hx hb dL_law_832 ?_
  refine va_sld hx hb hX hbl hbA hS h1 dL_law_833 ?_
  replace hB := hB.turn
  refine kSi11 (kRV hx hb hml hown ht hN hK hB.1 hB.2.1 (c_X11_again l D cI cJ cZ cR (a 40) (a 41) (a 42) (a 43) (a 44) (a 45) (a 46) (a 47) (a 48) (a 49) (a 50) (a 51) (a 52) (a 53) (a 54) (a 55) (a 56) (a 57) (a 58) (a 59) (a 60) (vI 31) (vI 32) (vI 33) (vI 34) (vI 35) (vI 36) (vI 37) (vI 38) (vI 39) (vI 40) (vI 41) (vI 42) (vI 43) (vI 44) (vI 45) (vI 46) (vI 47) (fI 33) (fI 32) (fI 25) (fI 22) (fI 23) (fI 24) (xs (x3 + (1 : Int32)).toNatClampNeg) _ hw) [0, 13, 12, 5, 2, 3, 4] rfl rfl (T := TX11) (N := 37) rfl rfl mw_1172 mw_1173 mw_1174 mw_11 mw_1175 hdX11_again ⟨Nat.le_of_ble_eq_true rfl, Nat.le_of_ble_eq_true rfl⟩ ⟨rfl, rfl⟩ hl.1 rfl (Nat.le_of_ble_eq_true rfl) dL_law_834 (kRoom (by omega) (by omega))) hB hS hA [0, 13, 12, 5, 2, 3, 4] rfl (fun _ _ _ _ _ _ _ _ _ _ _ => rfl) (fun r_76 v_77 v_78 v_79 v_80 v_81 v_82 v_83 f_84 f_85 f_86 f_87 H locs hw hB hS => ?_)
  replace hB := hB.turn
  refine lv_icmp_eq (tgt := 842) hx hb dL_law_837 (by decide) (fun _ => ?_) (fun z => absurd hw.1 z)
  replace hB : kX D (fun q : Nat => s.heap.size ≤ q) (lwX cI cJ cZ cR a (fun i => if i = 0 then v_65 else if i = 8 then v_66 else if i = 9 then v_67 else if i = 10 then v_68 else if i = 11 then v_69 else if i = 12 then v_70 else if i = 31 then v_77 else if i = 34 then v_78 else if i = 35 then v_79 else if i = 36 then v_80 else if i = 37 then v_81 else if i = 38 then v_82 else if i = 39 then v_83 else vI i) vL (fun i => if i = 6 then f_71 else if i = 7 then f_72 else if i = 8 then f_73 else if i = 9 then f_74 else if i = 10 then f_75 else if i = 22 then f_85 else if i = 23 then f_86 else if i = 24 then f_87 else if i = 25 then f_84 else fI i) fL fk ++ kW cI d) (lwM cI cJ cZ a (fun i => if i = 0 then v_65 else if i = 8 then v_66 else if i = 9 then v_67 else if i = 10 then v_68 else if i = 11 then v_69 else if i = 12 then v_70 else if i = 31 then v_77 else if i = 34 then v_78 else if i = 35 then v_79 else if i = 36 then v_80 else if i = 37 then v_81 else if i = 38 then v_82 else if i = 39 then v_83 else vI i) vL (fun i => if i = 6 then f_71 else if i = 7 then f_72 else if i = 8 then f_73 else if i = 9 then f_74 else if i = 10 then f_75 else if i = 22 then f_85 else if i = 23 then f_86 else if i = 24 then f_87 else if i = 25 then f_84 else fI i) fL ++ kWo cI k0) H := hB
  replace hB := hB.rear1
  rw [show kW cI d = kWo cI (some d) from rfl, ← hk0] at hB
  exact hnext (fun i => if i = 0 then v_65 else if i = 8 then v_66 else if i = 9 then v_67 else if i = 10 then v_68 else if i = 11 then v_69 else if i = 12 then v_70 else if i = 31 then v_77 else if i = 34 then v_78 else if i = 35 then v_79 else if i = 36 then v_80 else if i = 37 then v_81 else if i = 38 then v_82 else if i = 39 then v_83 else vI i) vL (fun i => if i = 6 then f_71 else if i = 7 then f_72 else if i = 8 then f_73 else if i = 9 then f_74 else if i = 10 then f_75 else if i = 22 then f_85 else if i = 23 then f_86 else if i = 24 then f_87 else if i = 25 then f_84 else fI i) fL fk k0 k1 H locs _ _ ls ⟨hR.1, hw.2, hR.2.2.1, hR.2.2.2.1, hR.2.2.2.2⟩ hB hS (by omega) (by omega) hl
