set_option maxHeartbeats 8000000 in
set_option maxRecDepth 100000 in
theorem law_house (hsm : S_house) {p : Program} {e : Env} {s : State} {m : MethodId} {below : List Frame} {meth : Method} {c : Code} {b L : Nat} {xs : Nat → Int32} (C0 : lw_At p s m meth c b L xs) (l : Launch) (D : va_G) (cI cJ cZ cR : ClassId) (hK : va_K D kCl (kTy cI cJ cZ cR) s) (a : Nat → Nat) (vI : Nat → Int32) (vL : Nat → Int64) (fI : Nat → Nat → Int32) (fL : Nat → Nat → Int64) (fk : Nat → Option Nat) (k0 k1 : Option KD) (hR : RR vI fI fk k0 k1) {H : Heap} {locs : List Loc} {nc ns : Nat} (hc : nc + 7 ≤ 600000) (hs : ns + 55 ≤ 7302249) (hB : kX D (fun q : Nat => s.heap.size ≤ q) (lwX cI cJ cZ cR a vI vL fI fL fk) (lwM cI cJ cZ a vI vL fI fL ++ (kWo cI k0 ++ kWo cI k1)) H) (hS : va_S (fun q : Nat => s.heap.size ≤ q) s.heap H locs) {ls : Array Slot} {x3 : Int32} (hl : lv_has ls 4 [(0, .ref b), (1, .ref (a 0)), (2, .ref (a 40)), (3, .int x3)]) (h1 : vp_in (x3 + (1 : Int32)) L) (h2 : vp_in (x3 + (2 : Int32)) L) (h3 : vp_in (x3 + (3 : Int32)) L) (hnext : ∀ (vI : Nat → Int32) (vL : Nat → Int64) (fI : Nat → Nat → Int32) (fL : Nat → Nat → Int64) (fk : Nat → Option Nat) (k0 k1 : Option KD) (H : Heap) (locs : List Loc) (nc2 ns2 : Nat) (ls : Array Slot), RR vI fI fk k0 k1 → kX D (fun q : Nat => s.heap.size ≤ q) (lwX cI cJ cZ cR a vI vL fI fL fk) (lwM cI cJ cZ a vI vL fI fL ++ (kWo cI k0 ++ kWo cI k1)) H → va_S (fun q : Nat => s.heap.size ≤ q) s.heap H locs → nc2 ≤ nc + 7 → ns2 ≤ ns + 55 → lv_has ls 4 [(0, .ref b), (1, .ref (a 0)), (2, .ref (a 40)), (3, .int x3)] → W p l e room_1 s m #[Value.ref b] below meth c H locs nc2 ns2 (lw_Z below #[Value.ref b] s) (F0 m 842 ls [])) : W p l e room_1 s m #[Value.ref b] below meth c H locs nc ns (lw_Z below #[Value.ref b] s) (F0 m 245 ls []) := by
  obtain ⟨hx, hb, hr, hml, hown0, hts, hX, hbl, hlocks, hgv⟩ := C0
  have hown : s.vm.findClass RL = some m.cls := hown0
  have ht : ∀ w ∈ kTb, w.before #[Value.ref b] s = true := fun w h => hts w (kTb_lw w h)
  have hN : kN s := kN.of hts
  have hA : ∀ q : Nat, s.heap.size ≤ q → (fun q : Nat => s.heap.size ≤ q) q := fun _ h => h
  have hbA : ¬ (fun q : Nat => s.heap.size ≤ q) b := Nat.not_le.mpr hbl
  refine lv_aload_n hx hb dL_law_245 rfl (lv_at hl 1 rfl) ?_
  have hw := hsm  (vI 0) (vI 1) (fI 0) (vI 3) (vI 4) (vI 5) (vI 6) (vI 7) (fI 3) (fI 4) (fI 1) (fI 2) (vI 8) (vI 9) (vI 10) (vI 11) (vI 12) (fI 6) (fI 7) (fI 8) (fI 9) (fI 5) (fI 10) (vI 26) (fI 20) (vI 32) (vI 34) (vI 35) (vI 36) (vI 37) (vI 38) (vI 39) (vI 40) (vI 43) (fI 26) (fI 21) (fI 28) (fI 27) (fI 22) (fI 23) (fI 31) (fI 24) (vI 13) (fI 11) (fI 12) (fI 13) (fI 25) (fI 18) (fI 19) (fI 29) (fI 30) hR.1 hR.2.1 hR.2.2.1 hR.2.2.2.1
  refine kSi23 (kRV hx hb hml hown ht hN hK hB.1 hB.2.1 (c_X10_house l D cI cJ cZ cR (a 0) (a 1) (a 3) (a 4) (a 11) (a 18) (a 19) (a 24) (a 25) (a 30) (a 36) (a 2) (a 5) (a 10) (a 6) (a 7) (a 8) (a 9) (a 12) (a 17) (a 13) (a 14) (a 15) (a 16) (a 31) (a 32) (a 33) (a 34) (a 35) (a 37) (a 38) (a 39) (vI 0) (vI 2) (vI 1) (fI 0) (vI 3) (vI 4) (vI 5) (vI 6) (vI 7) (fI 3) (fI 4) (fI 1) (fI 2) (vI 8) (vI 9) (vI 10) (vI 11) (vI 12) (fI 6) (fI 7) (fI 8) (fI 9) (fI 5) (fI 10) (vI 26) (vL 0) (vL 1) (fI 20) _ hw) [0, 3, 1, 2, 4, 5, 8, 9, 6, 7, 11, 12, 13, 14, 15, 16, 10, 17, 30, 36, 37] rfl rfl (T := TX10) (N := 11) rfl rfl mw_350 mw_351 mw_352 mw_1 mw_353 hdX10_house ⟨Nat.le_of_ble_eq_true rfl, Nat.le_of_ble_eq_true rfl⟩ ⟨rfl, rfl⟩ hl.1 rfl (Nat.le_of_ble_eq_true rfl) dL_law_246 (kRoom (by omega) (by omega))) hB hS hA [0, 3, 1, 2, 4, 5, 8, 9, 6, 7, 11, 12, 13, 14, 15, 16, 10, 17, 30, 36, 37] rfl (fun _ _ _ _ _ _ _ _ _ _ _ _ _ _ _ _ _ _ _ _ _ _ _ => rfl) (fun r_1 v_2 v_3 v_4 v_5 v_6 v_7 v_8 f_9 f_10 f_11 f_12 v_13 v_14 v_15 v_16 v_17 f_18 f_19 f_20 f_21 f_22 v_23 f_24 H locs hw hB hS => ?_)
  refine lv_aload_n hx hb dL_law_249 rfl (lv_at hl 2 rfl) ?_
  replace hB := hB.turn
  refine kSi19 (kRV hx hb hml hown ht hN hK hB.1 hB.2.1 (c_X11_house l D cI cJ cZ cR (a 40) (a 41) (a 42) (a 43) (a 44) (a 45) (a 46) (a 47) (a 48) (a 49) (a 50) (a 51) (a 52) (a 53) (a 54) (a 55) (a 56) (a 57) (a 58) (a 59) (a 60) (vI 31) (vI 32) (vI 33) (vI 34) (vI 35) (vI 36) (vI 37) (vI 38) (vI 39) (vI 40) (vI 41) (vI 42) (vI 43) (vI 44) (vI 45) (vI 46) (vI 47) (fI 26) (fI 21) (fI 28) (fI 27) (fI 22) (fI 23) (fI 31) (fI 24) _ hw) [0, 6, 1, 8, 7, 2, 3, 11, 4] rfl rfl (T := TX11) (N := 37) rfl rfl mw_956 mw_957 mw_958 mw_11 mw_959 hdX11_house ⟨Nat.le_of_ble_eq_true rfl, Nat.le_of_ble_eq_true rfl⟩ ⟨rfl, rfl⟩ hl.1 rfl (Nat.le_of_ble_eq_true rfl) dL_law_250 (kRoom (by omega) (by omega))) hB hS hA [0, 6, 1, 8, 7, 2, 3, 11, 4] rfl (fun _ _ _ _ _ _ _ _ _ _ _ _ _ _ _ _ _ _ _ => rfl) (fun r_25 v_26 v_27 v_28 v_29 v_30 v_31 v_32 v_33 v_34 v_35 v_36 v_37 f_38 f_39 f_40 f_41 f_42 f_43 f_44 H locs hw hB hS => ?_)
  replace hB := hB.turn
  refine lv_icmp_eq (tgt := 842) hx hb dL_law_253 (by decide) (fun _ => ?_) (fun z => absurd hw.1 z)
  exact hnext (fun i => if i = 0 then v_2 else if i = 2 then v_3 else if i = 3 then v_4 else if i = 4 then v_5 else if i = 5 then v_6 else if i = 6 then v_7 else if i = 7 then v_8 else if i = 8 then v_13 else if i = 9 then v_14 else if i = 10 then v_15 else if i = 11 then v_16 else if i = 12 then v_17 else if i = 26 then v_23 else if i = 31 then v_26 else if i = 33 then v_27 else if i = 34 then v_28 else if i = 35 then v_29 else if i = 36 then v_30 else if i = 37 then v_31 else if i = 38 then v_32 else if i = 39 then v_33 else if i = 40 then v_34 else if i = 41 then v_35 else if i = 42 then v_36 else if i = 43 then v_37 else vI i) vL (fun i => if i = 1 then f_11 else if i = 2 then f_12 else if i = 3 then f_9 else if i = 4 then f_10 else if i = 6 then f_18 else if i = 7 then f_19 else if i = 8 then f_20 else if i = 9 then f_21 else if i = 10 then f_22 else if i = 20 then f_24 else if i = 22 then f_41 else if i = 23 then f_42 else if i = 24 then f_44 else if i = 26 then f_38 else if i = 27 then f_40 else if i = 28 then f_39 else if i = 31 then f_43 else fI i) fL fk k0 k1 H locs _ _ ls ⟨hR.1, hw.2.1, hw.2.2.1, hw.2.2.2, hR.2.2.2.2⟩ hB hS (by omega) (by omega) hl
set_option maxHeartbeats 8000000 in
set_option maxRecDepth 100000 in
theorem law_halt (hsm : S_halt) {p : Program} {e : Env} {s : State} {m : MethodId} {below : List Frame} {meth : Method} {c : Code} {b L : Nat} {xs : Nat → Int32} (C0 : lw_At p s m meth c b L xs) (l : Launch) (D : va_G) (cI cJ cZ cR : ClassId) (hK : va_K D kCl (kTy cI cJ cZ cR) s) (a : Nat → Nat) (vI : Nat → Int32) (vL : Nat → Int64) (fI : Nat → Nat → Int32) (fL : Nat → Nat → Int64) (fk : Nat → Option Nat) (k0 k1 : Option KD) (hR : RR vI fI fk k0 k1) {H : Heap} {locs : List Loc} {nc ns : Nat} (hc : nc + 7 ≤ 600000) (hs : ns + 55 ≤ 7302249) (hB : kX D (fun q : Nat => s.heap.size ≤ q) (lwX cI cJ cZ cR a vI vL fI fL fk) (lwM cI cJ cZ a vI vL fI fL ++ (kWo cI k0 ++ kWo cI k1)) H) (hS : va_S (fun q : Nat => s.heap.size ≤ q) s.heap H locs) {ls : Array Slot} {x3 : Int32} (hl : lv_has ls 4 [(0, .ref b), (1, .ref (a 0)), (2, .ref (a 40)), (3, .int x3)]) (h1 : vp_in (x3 + (1 : Int32)) L) (h2 : vp_in (x3 + (2 : Int32)) L) (h3 : vp_in (x3 + (3 : Int32)) L) (hnext : ∀ (vI : Nat → Int32) (vL : Nat → Int64) (fI : Nat → Nat → Int32) (fL : Nat → Nat → Int64) (fk : Nat → Option Nat) (k0 k1 : Option KD) (H : Heap) (locs : List Loc) (nc2 ns2 : Nat) (ls : Array Slot), RR vI fI fk k0 k1 → kX D (fun q : Nat => s.heap.size ≤ q) (lwX cI cJ cZ cR a vI vL fI fL fk) (lwM cI cJ cZ a vI vL fI fL ++ (kWo cI k0 ++ kWo cI k1)) H → va_S (fun q : Nat => s.heap.size ≤ q) s.heap H locs → nc2 ≤ nc + 7 → ns2 ≤ ns + 55 → lv_has ls 4 [(0, .ref b), (1, .ref (a 0)), (2, .ref (a 40)), (3, .int x3)] → W p l e room_1 s m #[Value.ref b] below meth c H locs nc2 ns2 (lw_Z below #[Value.ref b] s) (F0 m 842 ls [])) : W p l e room_1 s m #[Value.ref b] below meth c H locs nc ns (lw_Z below #[Value.ref b] s) (F0 m 399 ls []) := by
  obtain ⟨hx, hb, hr, hml, hown0, hts, hX, hbl, hlocks, hgv⟩ := C0
  have hown : s.vm.findClass RL = some m.cls := hown0
  have ht : ∀ w ∈ kTb, w.before #[Value.ref b] s = true := fun w h => hts w (kTb_lw w h)
  have hN : kN s := kN.of hts
  have hA : ∀ q : Nat, s.heap.size ≤ q → (fun q : Nat => s.heap.size ≤ q) q := fun _ h => h
  have hbA : ¬ (fun q : Nat => s.heap.size ≤ q) b := Nat.not_le.mpr hbl
  refine lv_aload_n hx hb dL_law_399 rfl (lv_at hl 1 rfl) ?_
  refine lv_aload_n hx hb dL_law_400 rfl (lv_at hl 0 rfl) ?_
  refine lv_iload_n hx hb dL_law_401 rfl (lv_at hl 3 rfl) ?_
  refine lv_iconst (v := (1 : Int32)) hx hb dL_law_402 (by decide) ?_
  refine lv_iadd hx hb dL_law_403 ?_
  refine va_sld hx hb hX hbl hbA hS h1 dL_law_404 ?_
  refine lv_aload_n hx hb dL_law_405 rfl (lv_at hl 0 rfl) ?_
  refine lv_iload_n hx hb dL_law_406 rfl (lv_at hl 3 rfl) ?_
  refine lv_iconst (v := (2 : Int32)) hx hb dL_law_407 (by decide) ?_
  refine lv_iadd hx hb dL_law_408 ?_
  refine va_sld hx hb hX hbl hbA hS h2 dL_law_409 ?_
  refine lv_aload_n hx hb dL_law_410 rfl (lv_at hl 0 rfl) ?_
  refine lv_iload_n hx hb dL_law_411 rfl (lv_at hl 3 rfl) ?_
  refine lv_iconst (v := (3 : Int32)) hx hb dL_law_412 (by decide) ?_
  refine lv_iadd hx hb dL_law_413 ?_
  refine va_sld hx hb hX hbl hbA hS h3 dL_law_414 ?_
  have hw := hsm (xs (x3 + (1 : Int32)).toNatClampNeg) (xs (x3 + (2 : Int32)).toNatClampNeg) (xs (x3 + (3 : Int32)).toNatClampNeg) (vI 0) (vI 8) (vI 9) (vI 10) (fI 8) (fI 9) (fI 10) (vI 34) (vI 37) (vI 38) (vI 39) (fI 22) (fI 23) (fI 25) (vI 11) (vI 12) (fI 6) (fI 7) (vI 13) (fI 11) (fI 12) (fI 13) (vI 35) (vI 36) (fI 24) hR.2.1
  refine kSi4 (kRV hx hb hml hown ht hN hK hB.1 hB.2.1 (c_X10_halt l D cI cJ cZ cR (a 0) (a 1) (a 3) (a 4) (a 11) (a 18) (a 19) (a 24) (a 25) (a 30) (a 36) (a 12) (a 17) (a 13) (a 14) (a 15) (a 16) (vI 0) (vI 8) (vI 9) (vI 10) (vI 11) (vI 12) (fI 8) (fI 9) (fI 10) (xs (x3 + (1 : Int32)).toNatClampNeg) (xs (x3 + (2 : Int32)).toNatClampNeg) (xs (x3 + (3 : Int32)).toNatClampNeg) _ hw) [0, 11, 12, 15, 16, 17] rfl rfl (T := TX10) (N := 11) rfl rfl mw_503 mw_504 mw_505 mw_1 mw_506 hdX10_halt ⟨Nat.le_of_ble_eq_true rfl, Nat.le_of_ble_eq_true rfl⟩ ⟨rfl, rfl⟩ hl.1 rfl (Nat.le_of_ble_eq_true rfl) dL_law_415 (kRoom (by omega) (by omega))) hB hS hA [0, 11, 12, 15, 16, 17] rfl (fun _ _ _ _ => rfl) (fun r_1 v_2 v_3 v_4 f_5 H locs hw hB hS => ?_)
  refine lv_aload_n hx hb dL_law_418 rfl (lv_at hl 2 rfl) ?_
  refine lv_aload_n hx hb dL_law_419 rfl (lv_at hl 0 rfl) ?_
  refine lv_iload_n hx hb dL_law_420 rfl (lv_at hl 3 rfl) ?_
  refine lv_iconst (v := (1 : Int32)) hx hb dL_law_421 (by decide) ?_
  refine lv_iadd hx hb dL_law_422 ?_
  refine va_sld hx hb hX hbl hbA hS h1 dL_law_423 ?_
  refine lv_aload_n hx hb dL_law_424 rfl (lv_at hl 0 rfl) ?_
  refine lv_iload_n hx hb dL_law_425 rfl (lv_at hl 3 rfl) ?_
  refine lv_iconst (v := (2 : Int32)) hx hb dL_law_426 (by decide) ?_
  refine lv_iadd hx hb dL_law_427 ?_
  refine va_sld hx hb hX hbl hbA hS h2 dL_law_428 ?_
  refine lv_aload_n hx hb dL_law_429 rfl (lv_at hl 0 rfl) ?_
  refine lv_iload_n hx hb dL_law_430 rfl (lv_at hl 3 rfl) ?_
  refine lv_iconst (v := (3 : Int32)) hx hb dL_law_431 (by decide) ?_
  refine lv_iadd hx hb dL_law_432 ?_
  refine va_sld hx hb hX hbl hbA hS h3 dL_law_433 ?_
  replace hB := hB.turn
  refine kSi6 (kRV hx hb hml hown ht hN hK hB.1 hB.2.1 (c_X11_halt l D cI cJ cZ cR (a 40) (a 41) (a 42) (a 43) (a 44) (a 45) (a 46) (a 47) (a 48) (a 49) (a 50) (a 51) (a 52) (a 53) (a 54) (a 55) (a 56) (a 57) (a 58) (a 59) (a 60) (vI 31) (vI 32) (vI 33) (vI 34) (vI 35) (vI 36) (vI 37) (vI 38) (vI 39) (vI 40) (vI 41) (vI 42) (vI 43) (vI 44) (vI 45) (vI 46) (vI 47) (fI 22) (fI 23) (fI 25) (xs (x3 + (1 : Int32)).toNatClampNeg) (xs (x3 + (2 : Int32)).toNatClampNeg) (xs (x3 + (3 : Int32)).toNatClampNeg) _ hw) [0, 2, 3, 5] rfl rfl (T := TX11) (N := 37) rfl rfl mw_1003 mw_1004 mw_1005 mw_11 mw_1006 hdX11_halt ⟨Nat.le_of_ble_eq_true rfl, Nat.le_of_ble_eq_true rfl⟩ ⟨rfl, rfl⟩ hl.1 rfl (Nat.le_of_ble_eq_true rfl) dL_law_434 (kRoom (by omega) (by omega))) hB hS hA [0, 2, 3, 5] rfl (fun _ _ _ _ _ _ => rfl) (fun r_6 v_7 v_8 v_9 v_10 f_11 f_12 H locs hw hB hS => ?_)
  replace hB := hB.turn
  refine lv_icmp_eq (tgt := 842) hx hb dL_law_437 (by decide) (fun _ => ?_) (fun z => absurd hw.1 z)
  exact hnext (fun i => if i = 0 then v_2 else if i = 8 then v_3 else if i = 9 then v_4 else if i = 31 then v_7 else if i = 37 then v_8 else if i = 38 then v_9 else if i = 39 then v_10 else vI i) vL (fun i => if i = 10 then f_5 else if i = 22 then f_11 else if i = 25 then f_12 else fI i) fL fk k0 k1 H locs _ _ ls ⟨hR.1, hw.2, hR.2.2.1, hR.2.2.2.1, hR.2.2.2.2⟩ hB hS (by omega) (by omega) hl
set_option maxHeartbeats 8000000 in
set_option maxRecDepth 100000 in
theorem law_back (hsm : S_back) {p : Program} {e : Env} {s : State} {m : MethodId} {below : List Frame} {meth : Method} {c : Code} {b L : Nat} {xs : Nat → Int32} (C0 : lw_At p s m meth c b L xs) (l : Launch) (D : va_G) (cI cJ cZ cR : ClassId) (hK : va_K D kCl (kTy cI cJ cZ cR) s) (a : Nat → Nat) (vI : Nat → Int32) (vL : Nat → Int64) (fI : Nat → Nat → Int32) (fL : Nat → Nat → Int64) (fk : Nat → Option Nat) (k0 k1 : Option KD) (hR : RR vI fI fk k0 k1) {H : Heap} {locs : List Loc} {nc ns : Nat} (hc : nc + 7 ≤ 600000) (hs : ns + 55 ≤ 7302249) (hB : kX D (fun q : Nat => s.heap.size ≤ q) (lwX cI cJ cZ cR a vI vL fI fL fk) (lwM cI cJ cZ a vI vL fI fL ++ (kWo cI k0 ++ kWo cI k1)) H) (hS : va_S (fun q : Nat => s.heap.size ≤ q) s.heap H locs) {ls : Array Slot} {x3 : Int32} (hl : lv_has ls 4 [(0, .ref b), (1, .ref (a 0)), (2, .ref (a 40)), (3, .int x3)]) (h1 : vp_in (x3 + (1 : Int32)) L) (h2 : vp_in (x3 + (2 : Int32)) L) (h3 : vp_in (x3 + (3 : Int32)) L) (hnext : ∀ (vI : Nat → Int32) (vL : Nat → Int64) (fI : Nat → Nat → Int32) (fL : Nat → Nat → Int64) (fk : Nat → Option Nat) (k0 k1 : Option KD) (H : Heap) (locs : List Loc) (nc2 ns2 : Nat) (ls : Array Slot), RR vI fI fk k0 k1 → kX D (fun q : Nat => s.heap.size ≤ q) (lwX cI cJ cZ cR a vI vL fI fL fk) (lwM cI cJ cZ a vI vL fI fL ++ (kWo cI k0 ++ kWo cI k1)) H → va_S (fun q : Nat => s.heap.size ≤ q) s.heap H locs → nc2 ≤ nc + 7 → ns2 ≤ ns + 55 → lv_has ls 4 [(0, .ref b), (1, .ref (a 0)), (2, .ref (a 40)), (3, .int x3)] → W p l e room_1 s m #[Value.ref b] below meth c H locs nc2 ns2 (lw_Z below #[Value.ref b] s) (F0 m 842 ls [])) : W p l e room_1 s m #[Value.ref b] below meth c H locs nc ns (lw_Z below #[Value.ref b] s) (F0 m 442 ls []) := by
  obtain ⟨hx, hb, hr, hml, hown0, hts, hX, hbl, hlocks, hgv⟩ := C0
  have hown : s.vm.findClass RL = some m.cls := hown0
  have ht : ∀ w ∈ kTb, w.before #[Value.ref b] s = true := fun w h => hts w (kTb_lw w h)
  have hN : kN s := kN.of hts
  have hA : ∀ q : Nat, s.heap.size ≤ q → (fun q : Nat => s.heap.size ≤ q) q := fun _ h => h
  have hbA : ¬ (fun q : Nat => s.heap.size ≤ q) b := Nat.not_le.mpr hbl
  refine lv_aload_n hx hb dL_law_442 rfl (lv_at hl 1 rfl) ?_
  have hw := hsm  (vI 0) (vI 8) (vI 9) (fI 10) (vI 37) (vI 38) (vI 39) (fI 25) (fI 22) (vI 10) (vI 11) (vI 12) (fI 6) (fI 7) (fI 8) (fI 9) (vI 13) (fI 11) (fI 12) (fI 13) (vI 34) (vI 35) (vI 36) (fI 23) (fI 24) hR.2.1
  refine kSi3 (kRV hx hb hml hown ht hN hK hB.1 hB.2.1 (c_X10_back l D cI cJ cZ cR (a 0) (a 1) (a 3) (a 4) (a 11) (a 18) (a 19) (a 24) (a 25) (a 30) (a 36) (a 12) (a 17) (vI 0) (vI 8) (vI 9) (fI 10) _ hw) [0, 11, 17] rfl rfl (T := TX10) (N := 11) rfl rfl mw_534 mw_535 mw_536 mw_1 mw_537 hdX10_back ⟨Nat.le_of_ble_eq_true rfl, Nat.le_of_ble_eq_true rfl⟩ ⟨rfl, rfl⟩ hl.1 rfl (Nat.le_of_ble_eq_true rfl) dL_law_443 (kRoom (by omega) (by omega))) hB hS hA [0, 11, 17] rfl (fun _ _ _ => rfl) (fun r_1 v_2 v_3 v_4 H locs hw hB hS => ?_)
  refine lv_aload_n hx hb dL_law_446 rfl (lv_at hl 2 rfl) ?_
  replace hB := hB.turn
  refine kSi5 (kRV hx hb hml hown ht hN hK hB.1 hB.2.1 (c_X11_back l D cI cJ cZ cR (a 40) (a 41) (a 42) (a 43) (a 44) (a 45) (a 46) (a 47) (a 48) (a 49) (a 50) (a 51) (a 52) (a 53) (a 54) (a 55) (a 56) (a 57) (a 58) (a 59) (a 60) (vI 31) (vI 32) (vI 33) (vI 34) (vI 35) (vI 36) (vI 37) (vI 38) (vI 39) (vI 40) (vI 41) (vI 42) (vI 43) (vI 44) (vI 45) (vI 46) (vI 47) (fI 25) (fI 22) _ hw) [0, 5, 2] rfl rfl (T := TX11) (N := 37) rfl rfl mw_1017 mw_1018 mw_1019 mw_11 mw_1020 hdX11_back ⟨Nat.le_of_ble_eq_true rfl, Nat.le_of_ble_eq_true rfl⟩ ⟨rfl, rfl⟩ hl.1 rfl (Nat.le_of_ble_eq_true rfl) dL_law_447 (kRoom (by omega) (by omega))) hB hS hA [0, 5, 2] rfl (fun _ _ _ _ _ => rfl) (fun r_5 v_6 v_7 v_8 v_9 f_10 H locs hw hB hS => ?_)
  replace hB := hB.turn
  refine lv_icmp_eq (tgt := 842) hx hb dL_law_450 (by decide) (fun _ => ?_) (fun z => absurd hw.1 z)
  exact hnext (fun i => if i = 0 then v_2 else if i = 8 then v_3 else if i = 9 then v_4 else if i = 31 then v_6 else if i = 37 then v_7 else if i = 38 then v_8 else if i = 39 then v_9 else vI i) vL (fun i => if i = 22 then f_10 else fI i) fL fk k0 k1 H locs _ _ ls ⟨hR.1, hw.2, hR.2.2.1, hR.2.2.2.1, hR.2.2.2.2⟩ hB hS (by omega) (by omega) hl
set_option maxHeartbeats 8000000 in
set_option maxRecDepth 100000 in
theorem law_plan (hsm : S_plan) {p : Program} {e : Env} {s : State} {m : MethodId} {below : List Frame} {meth : Method} {c : Code} {b L : Nat} {xs : Nat → Int32} (C0 : lw_At p s m meth c b L xs) (l : Launch) (D : va_G) (cI cJ cZ cR : ClassId) (hK : va_K D kCl (kTy cI cJ cZ cR) s) (a : Nat → Nat) (vI : Nat → Int32) (vL : Nat → Int64) (fI : Nat → Nat → Int32) (fL : Nat → Nat → Int64) (fk : Nat → Option Nat) (k0 k1 : Option KD) (hR : RR vI fI fk k0 k1) {H : Heap} {locs : List Loc} {nc ns : Nat} (hc : nc + 7 ≤ 600000) (hs : ns + 55 ≤ 7302249) (hB : kX D (fun q : Nat => s.heap.size ≤ q) (lwX cI cJ cZ cR a vI vL fI fL fk) (lwM cI cJ cZ a vI vL fI fL ++ (kWo cI k0 ++ kWo cI k1)) H) (hS : va_S (fun q : Nat => s.heap.size ≤ q) s.heap H locs) {ls : Array Slot} {x3 : Int32} (hl : lv_has ls 4 [(0, .ref b), (1, .ref (a 0)), (2, .ref (a 40)), (3, .int x3)]) (h1 : vp_in (x3 + (1 : Int32)) L) (h2 : vp_in (x3 + (2 : Int32)) L) (h3 : vp_in (x3 + (3 : Int32)) L) (hnext : ∀ (vI : Nat → Int32) (vL : Nat → Int64) (fI : Nat → Nat → Int32) (fL : Nat → Nat → Int64) (fk : Nat → Option Nat) (k0 k1 : Option KD) (H : Heap) (locs : List Loc) (nc2 ns2 : Nat) (ls : Array Slot), RR vI fI fk k0 k1 → kX D (fun q : Nat => s.heap.size ≤ q) (lwX cI cJ cZ cR a vI vL fI fL fk) (lwM cI cJ cZ a vI vL fI fL ++ (kWo cI k0 ++ kWo cI k1)) H → va_S (fun q : Nat => s.heap.size ≤ q) s.heap H locs → nc2 ≤ nc + 7 → ns2 ≤ ns + 55 → lv_has ls 4 [(0, .ref b), (1, .ref (a 0)), (2, .ref (a 40)), (3, .int x3)] → W p l e room_1 s m #[Value.ref b] below meth c H locs nc2 ns2 (lw_Z below #[Value.ref b] s) (F0 m 842 ls [])) : W p l e room_1 s m #[Value.ref b] below meth c H locs nc ns (lw_Z below #[Value.ref b] s) (F0 m 524 ls []) := by
  obtain ⟨hx, hb, hr, hml, hown0, hts, hX, hbl, hlocks, hgv⟩ := C0
  have hown : s.vm.findClass RL = some m.cls := hown0
  have ht : ∀ w ∈ kTb, w.before #[Value.ref b] s = true := fun w h => hts w (kTb_lw w h)
  have hN : kN s := kN.of hts
  have hA : ∀ q : Nat, s.heap.size ≤ q → (fun q : Nat => s.heap.size ≤ q) q := fun _ h => h
  have hbA : ¬ (fun q : Nat => s.heap.size ≤ q) b := Nat.not_le.mpr hbl
  refine lv_aload_n hx hb dL_law_524 rfl (lv_at hl 1 rfl) ?_
  refine lv_aload_n hx hb dL_law_525 rfl (lv_at hl 0 rfl) ?_
  refine lv_iload_n hx hb dL_law_526 rfl (lv_at hl 3 rfl) ?_
  refine lv_iconst (v := (1 : Int32)) hx hb dL_law_527 (by decide) ?_
  refine lv_iadd hx hb dL_law_528 ?_
  refine va_sld hx hb hX hbl hbA hS h1 dL_law_529 ?_
  refine lv_aload_n hx hb dL_law_530 rfl (lv_at hl 0 rfl) ?_
  refine lv_iload_n hx hb dL_law_531 rfl (lv_at hl 3 rfl) ?_
  refine lv_iconst (v := (2 : Int32)) hx hb dL_law_532 (by decide) ?_
  refine lv_iadd hx hb dL_law_533 ?_
  refine va_sld hx hb hX hbl hbA hS h2 dL_law_534 ?_
  refine lv_aload_n hx hb dL_law_535 rfl (lv_at hl 0 rfl) ?_
  refine lv_iload_n hx hb dL_law_536 rfl (lv_at hl 3 rfl) ?_
  refine lv_iconst (v := (3 : Int32)) hx hb dL_law_537 (by decide) ?_
  refine lv_iadd hx hb dL_law_538 ?_
  refine va_sld hx hb hX hbl hbA hS h3 dL_law_539 ?_
  have hw := hsm (xs (x3 + (1 : Int32)).toNatClampNeg) (xs (x3 + (2 : Int32)).toNatClampNeg) (xs (x3 + (3 : Int32)).toNatClampNeg) (vI 0) (vI 8) (vI 10) (vI 11) (vI 13) (vI 14) (fI 11) (fI 12) (fI 13) (fI 8) (fI 9) (vI 15) (vI 16) (vI 17) (vI 18) (vI 34) (vI 35) (vI 44) (vI 45) (vI 46) (vI 47) (fI 35) (fI 22) (fI 36) (fI 34) (fI 24) (fI 23) (fI 38) (fI 37) (vI 12) (vI 9) (fI 6) (fI 7) (fI 10) (vI 36) (vI 37) (vI 38) (vI 39) (fI 25) hR.2.1
  refine kSi10 (kRV hx hb hml hown ht hN hK hB.1 hB.2.1 (c_X10_plan l D cI cJ cZ cR (a 0) (a 1) (a 3) (a 4) (a 11) (a 18) (a 19) (a 24) (a 25) (a 30) (a 36) (a 12) (a 17) (a 13) (a 14) (a 15) (a 16) (a 20) (a 21) (a 22) (a 23) (vI 0) (vI 8) (vI 9) (vI 10) (vI 11) (vI 12) (vI 13) (vI 14) (fI 11) (fI 12) (fI 13) (fI 8) (fI 9) (vI 15) (vI 16) (vI 17) (vI 18) (xs (x3 + (1 : Int32)).toNatClampNeg) (xs (x3 + (2 : Int32)).toNatClampNeg) (xs (x3 + (3 : Int32)).toNatClampNeg) _ hw) [0, 11, 12, 19, 20, 21, 22, 15, 16, 23] rfl rfl (T := TX10) (N := 11) rfl rfl mw_612 mw_613 mw_614 mw_1 mw_615 hdX10_plan ⟨Nat.le_of_ble_eq_true rfl, Nat.le_of_ble_eq_true rfl⟩ ⟨rfl, rfl⟩ hl.1 rfl (Nat.le_of_ble_eq_true rfl) dL_law_540 (kRoom (by omega) (by omega))) hB hS hA [0, 11, 12, 19, 20, 21, 22, 15, 16, 23] rfl (fun _ _ _ _ _ _ _ _ _ _ => rfl) (fun r_1 v_2 v_3 v_4 f_5 f_6 f_7 v_8 v_9 v_10 v_11 H locs hw hB hS => ?_)
  refine lv_aload_n hx hb dL_law_543 rfl (lv_at hl 2 rfl) ?_
  refine lv_aload_n hx hb dL_law_544 rfl (lv_at hl 0 rfl) ?_
  refine lv_iload_n hx hb dL_law_545 rfl (lv_at hl 3 rfl) ?_
  refine lv_iconst (v := (1 : Int32)) hx hb dL_law_546 (by decide) ?_
  refine lv_iadd hx hb dL_law_547 ?_
  refine va_sld hx hb hX hbl hbA hS h1 dL_law_548 ?_
  refine lv_aload_n hx hb dL_law_549 rfl (lv_at hl 0 rfl) ?_
  refine lv_iload_n hx hb dL_law_550 rfl (lv_at hl 3 rfl) ?_
  refine lv_iconst (v := (2 : Int32)) hx hb dL_law_551 (by decide) ?_
  refine lv_iadd hx hb dL_law_552 ?_
  refine va_sld hx hb hX hbl hbA hS h2 dL_law_553 ?_
  refine lv_aload_n hx hb dL_law_554 rfl (lv_at hl 0 rfl) ?_
  refine lv_iload_n hx hb dL_law_555 rfl (lv_at hl 3 rfl) ?_
  refine lv_iconst (v := (3 : Int32)) hx hb dL_law_556 (by decide) ?_
  refine lv_iadd hx hb dL_law_557 ?_
  refine va_sld hx hb hX hbl hbA hS h3 dL_law_558 ?_
  replace hB := hB.turn
  refine kSi10 (kRV hx hb hml hown ht hN hK hB.1 hB.2.1 (c_X11_plan l D cI cJ cZ cR (a 40) (a 41) (a 42) (a 43) (a 44) (a 45) (a 46) (a 47) (a 48) (a 49) (a 50) (a 51) (a 52) (a 53) (a 54) (a 55) (a 56) (a 57) (a 58) (a 59) (a 60) (vI 31) (vI 32) (vI 33) (vI 34) (vI 35) (vI 36) (vI 37) (vI 38) (vI 39) (vI 40) (vI 41) (vI 42) (vI 43) (vI 44) (vI 45) (vI 46) (vI 47) (fI 35) (fI 22) (fI 36) (fI 34) (fI 24) (fI 23) (fI 38) (fI 37) (xs (x3 + (1 : Int32)).toNatClampNeg) (xs (x3 + (2 : Int32)).toNatClampNeg) (xs (x3 + (3 : Int32)).toNatClampNeg) _ hw) [0, 15, 2, 16, 14, 4, 3, 20, 17] rfl rfl (T := TX11) (N := 37) rfl rfl mw_1081 mw_1082 mw_1083 mw_11 mw_1084 hdX11_plan ⟨Nat.le_of_ble_eq_true rfl, Nat.le_of_ble_eq_true rfl⟩ ⟨rfl, rfl⟩ hl.1 rfl (Nat.le_of_ble_eq_true rfl) dL_law_559 (kRoom (by omega) (by omega))) hB hS hA [0, 15, 2, 16, 14, 4, 3, 20, 17] rfl (fun _ _ _ _ _ _ _ _ _ _ => rfl) (fun r_12 v_13 v_14 v_15 v_16 v_17 f_18 f_19 f_20 f_21 f_22 H locs hw hB hS => ?_)
  replace hB := hB.turn
  refine lv_icmp_eq (tgt := 842) hx hb dL_law_562 (by decide) (fun _ => ?_) (fun z => absurd hw.1 z)
  exact hnext (fun i => if i = 0 then v_2 else if i = 13 then v_3 else if i = 14 then v_4 else if i = 15 then v_8 else if i = 16 then v_9 else if i = 17 then v_10 else if i = 18 then v_11 else if i = 31 then v_13 else if i = 44 then v_14 else if i = 45 then v_15 else if i = 46 then v_16 else if i = 47 then v_17 else vI i) vL (fun i => if i = 11 then f_5 else if i = 12 then f_6 else if i = 13 then f_7 else if i = 34 then f_20 else if i = 35 then f_18 else if i = 36 then f_19 else if i = 37 then f_22 else if i = 38 then f_21 else fI i) fL fk k0 k1 H locs _ _ ls ⟨hR.1, hw.2, hR.2.2.1, hR.2.2.2.1, hR.2.2.2.2⟩ hB hS (by omega) (by omega) hl
set_option maxHeartbeats 8000000 in
set_option maxRecDepth 100000 in
theorem law_hire (hsm : S_hire) {p : Program} {e : Env} {s : State} {m : MethodId} {below : List Frame} {meth : Method} {c : Code} {b L : Nat} {xs : Nat → Int32} (C0 : lw_At p s m meth c b L xs) (l : Launch) (D : va_G) (cI cJ cZ cR : ClassId) (hK : va_K D kCl (kTy cI cJ cZ cR) s) (a : Nat → Nat) (vI : Nat → Int32) (vL : Nat → Int64) (fI : Nat → Nat → Int32) (fL : Nat → Nat → Int64) (fk : Nat → Option Nat) (k0 k1 : Option KD) (hR : RR vI fI fk k0 k1) {H : Heap} {locs : List Loc} {nc ns : Nat} (hc : nc + 7 ≤ 600000) (hs : ns + 55 ≤ 7302249) (hB : kX D (fun q : Nat => s.heap.size ≤ q) (lwX cI cJ cZ cR a vI vL fI fL fk) (lwM cI cJ cZ a vI vL fI fL ++ (kWo cI k0 ++ kWo cI k1)) H) (hS : va_S (fun q : Nat => s.heap.size ≤ q) s.heap H locs) {ls : Array Slot} {x3 : Int32} (hl : lv_has ls 4 [(0, .ref b), (1, .ref (a 0)), (2, .ref (a 40)), (3, .int x3)]) (h1 : vp_in (x3 + (1 : Int32)) L) (h2 : vp_in (x3 + (2 : Int32)) L) (h3 : vp_in (x3 + (3 : Int32)) L) (hnext : ∀ (vI : Nat → Int32) (vL : Nat → Int64) (fI : Nat → Nat → Int32) (fL : Nat → Nat → Int64) (fk : Nat → Option Nat) (k0 k1 : Option KD) (H : Heap) (locs : List Loc) (nc2 ns2 : Nat) (ls : Array Slot), RR vI fI fk k0 k1 → kX D (fun q : Nat => s.heap.size ≤ q) (lwX cI cJ cZ cR a vI vL fI fL fk) (lwM cI cJ cZ a vI vL fI fL ++ (kWo cI k0 ++ kWo cI k1)) H → va_S (fun q : Nat => s.heap.size ≤ q) s.heap H locs → nc2 ≤ nc + 7 → ns2 ≤ ns + 55 → lv_has ls 4 [(0, .ref b), (1, .ref (a 0)), (2, .ref (a 40)), (3, .int x3)] → W p l e room_1 s m #[Value.ref b] below meth c H locs nc2 ns2 (lw_Z below #[Value.ref b] s) (F0 m 842 ls [])) : W p l e room_1 s m #[Value.ref b] below meth c H locs nc ns (lw_Z below #[Value.ref b] s) (F0 m 580 ls []) := by
  obtain ⟨hx, hb, hr, hml, hown0, hts, hX, hbl, hlocks, hgv⟩ := C0
  have hown : s.vm.findClass RL = some m.cls := hown0
  have ht : ∀ w ∈ kTb, w.before #[Value.ref b] s = true := fun w h => hts w (kTb_lw w h)
  have hN : kN s := kN.of hts
  have hA : ∀ q : Nat, s.heap.size ≤ q → (fun q : Nat => s.heap.size ≤ q) q := fun _ h => h
  have hbA : ¬ (fun q : Nat => s.heap.size ≤ q) b := Nat.not_le.mpr hbl
  refine lv_aload_n hx hb dL_law_580 rfl (lv_at hl 1 rfl) ?_
  have hw := hsm  (vI 0) (vI 8) (vI 13) (vI 14) (fI 11) (fI 12) (fI 13) (vI 10) (vI 11) (vI 12) (fI 8) (fI 9) (vI 15) (vI 16) (vI 17) (vI 18) (vI 34) (vI 35) (vI 36) (fI 22) (fI 35) (fI 36) (fI 34) (fI 24) (fI 23) (fI 38) (fI 37) (vI 9) (fI 6) (fI 7) (fI 10) (vI 37) (vI 38) (vI 39) (fI 25) hR.2.1
  refine kSi10 (kRV hx hb hml hown ht hN hK hB.1 hB.2.1 (c_X10_hire l D cI cJ cZ cR (a 0) (a 1) (a 3) (a 4) (a 11) (a 18) (a 19) (a 24) (a 25) (a 30) (a 36) (a 12) (a 17) (a 20) (a 21) (a 22) (a 23) (a 13) (a 14) (a 15) (a 16) (vI 0) (vI 8) (vI 9) (vI 13) (vI 14) (fI 11) (fI 12) (fI 13) (vI 10) (vI 11) (vI 12) (fI 8) (fI 9) (vI 15) (vI 16) (vI 17) (vI 18) _ hw) [0, 11, 19, 20, 21, 22, 12, 15, 16, 23] rfl rfl (T := TX10) (N := 11) rfl rfl mw_630 mw_631 mw_632 mw_1 mw_633 hdX10_hire ⟨Nat.le_of_ble_eq_true rfl, Nat.le_of_ble_eq_true rfl⟩ ⟨rfl, rfl⟩ hl.1 rfl (Nat.le_of_ble_eq_true rfl) dL_law_581 (kRoom (by omega) (by omega))) hB hS hA [0, 11, 19, 20, 21, 22, 12, 15, 16, 23] rfl (fun _ _ _ _ _ _ _ _ _ _ => rfl) (fun r_1 v_2 v_3 v_4 f_5 f_6 f_7 v_8 v_9 v_10 v_11 H locs hw hB hS => ?_)
  refine lv_aload_n hx hb dL_law_584 rfl (lv_at hl 2 rfl) ?_
  replace hB := hB.turn
  refine kSi8 (kRV hx hb hml hown ht hN hK hB.1 hB.2.1 (c_X11_hire l D cI cJ cZ cR (a 40) (a 41) (a 42) (a 43) (a 44) (a 45) (a 46) (a 47) (a 48) (a 49) (a 50) (a 51) (a 52) (a 53) (a 54) (a 55) (a 56) (a 57) (a 58) (a 59) (a 60) (vI 31) (vI 32) (vI 33) (vI 34) (vI 35) (vI 36) (vI 37) (vI 38) (vI 39) (vI 40) (vI 41) (vI 42) (vI 43) (vI 44) (vI 45) (vI 46) (vI 47) (fI 22) (fI 35) (fI 36) (fI 34) (fI 24) (fI 23) (fI 38) (fI 37) _ hw) [0, 2, 15, 16, 14, 4, 3, 20, 17] rfl rfl (T := TX11) (N := 37) rfl rfl mw_1093 mw_1094 mw_1095 mw_11 mw_1096 hdX11_hire ⟨Nat.le_of_ble_eq_true rfl, Nat.le_of_ble_eq_true rfl⟩ ⟨rfl, rfl⟩ hl.1 rfl (Nat.le_of_ble_eq_true rfl) dL_law_585 (kRoom (by omega) (by omega))) hB hS hA [0, 2, 15, 16, 14, 4, 3, 20, 17] rfl (fun _ _ _ _ _ _ _ _ => rfl) (fun r_12 v_13 v_14 f_15 f_16 f_17 f_18 f_19 f_20 H locs hw hB hS => ?_)
  replace hB := hB.turn
  refine lv_icmp_eq (tgt := 842) hx hb dL_law_588 (by decide) (fun _ => ?_) (fun z => absurd hw.1 z)
  exact hnext (fun i => if i = 0 then v_2 else if i = 13 then v_3 else if i = 14 then v_4 else if i = 15 then v_8 else if i = 16 then v_9 else if i = 17 then v_10 else if i = 18 then v_11 else if i = 31 then v_13 else if i = 44 then v_14 else vI i) vL (fun i => if i = 11 then f_5 else if i = 12 then f_6 else if i = 13 then f_7 else if i = 22 then f_15 else if i = 34 then f_18 else if i = 35 then f_16 else if i = 36 then f_17 else if i = 37 then f_20 else if i = 38 then f_19 else fI i) fL fk k0 k1 H locs _ _ ls ⟨hR.1, hw.2, hR.2.2.1, hR.2.2.2.1, hR.2.2.2.2⟩ hB hS (by omega) (by omega) hl
