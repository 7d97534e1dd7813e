set_option maxHeartbeats 8000000 in
set_option maxRecDepth 100000 in
theorem law_write (hsm : S_write) {p : Program} {e : Env} {s : State} {m : MethodId} {below : List Frame} {meth : Method} {c : Code} {b L : Nat} {xs : Nat → Int32} (C0 : lw_At p s m meth c b L xs) (l : Launch) (D : va_G) (cI cJ cZ cR : ClassId) (hK : va_K D kCl (kTy cI cJ cZ cR) s) (a : Nat → Nat) (vI : Nat → Int32) (vL : Nat → Int64) (fI : Nat → Nat → Int32) (fL : Nat → Nat → Int64) (fk : Nat → Option Nat) (k0 k1 : Option KD) (hR : RR vI fI fk k0 k1) {H : Heap} {locs : List Loc} {nc ns : Nat} (hc : nc + 7 ≤ 600000) (hs : ns + 55 ≤ 7302249) (hB : kX D (fun q : Nat => s.heap.size ≤ q) (lwX cI cJ cZ cR a vI vL fI fL fk) (lwM cI cJ cZ a vI vL fI fL ++ (kWo cI k0 ++ kWo cI k1)) H) (hS : va_S (fun q : Nat => s.heap.size ≤ q) s.heap H locs) {ls : Array Slot} {x3 : Int32} (hl : lv_has ls 4 [(0, .ref b), (1, .ref (a 0)), (2, .ref (a 40)), (3, .int x3)]) (h1 : vp_in (x3 + (1 : Int32)) L) (h2 : vp_in (x3 + (2 : Int32)) L) (h3 : vp_in (x3 + (3 : Int32)) L) (hnext : ∀ (vI : Nat → Int32) (vL : Nat → Int64) (fI : Nat → Nat → Int32) (fL : Nat → Nat → Int64) (fk : Nat → Option Nat) (k0 k1 : Option KD) (H : Heap) (locs : List Loc) (nc2 ns2 : Nat) (ls : Array Slot), RR vI fI fk k0 k1 → kX D (fun q : Nat => s.heap.size ≤ q) (lwX cI cJ cZ cR a vI vL fI fL fk) (lwM cI cJ cZ a vI vL fI fL ++ (kWo cI k0 ++ kWo cI k1)) H → va_S (fun q : Nat => s.heap.size ≤ q) s.heap H locs → nc2 ≤ nc + 7 → ns2 ≤ ns + 55 → lv_has ls 4 [(0, .ref b), (1, .ref (a 0)), (2, .ref (a 40)), (3, .int x3)] → W p l e room_1 s m #[Value.ref b] below meth c H locs nc2 ns2 (lw_Z below #[Value.ref b] s) (F0 m 842 ls [])) : W p l e room_1 s m #[Value.ref b] below meth c H locs nc ns (lw_Z below #[Value.ref b] s) (F0 m 156 ls []) := by
  obtain ⟨hx, hb, hr, hml, hown0, hts, hX, hbl, hlocks, hgv⟩ := C0
  have hown : s.vm.findClass RL = some m.cls := hown0
  have ht : ∀ w ∈ kTb, w.before #[Value.ref b] s = true := fun w h => hts w (kTb_lw w h)
  have hN : kN s := kN.of hts
  have hA : ∀ q : Nat, s.heap.size ≤ q → (fun q : Nat => s.heap.size ≤ q) q := fun _ h => h
  have hbA : ¬ (fun q : Nat => s.heap.size ≤ q) b := Nat.not_le.mpr hbl
  refine lv_aload_n hx hb dL_law_156 rfl (lv_at hl 1 rfl) ?_
  refine lv_aload_n hx hb dL_law_157 rfl (lv_at hl 0 rfl) ?_
  refine lv_iload_n hx hb dL_law_158 rfl (lv_at hl 3 rfl) ?_
  refine lv_iconst (v := (1 : Int32)) hx hb dL_law_159 (by decide) ?_
  refine lv_iadd hx hb dL_law_160 ?_
  refine va_sld hx hb hX hbl hbA hS h1 dL_law_161 ?_
  refine lv_aload_n hx hb dL_law_162 rfl (lv_at hl 0 rfl) ?_
  refine lv_iload_n hx hb dL_law_163 rfl (lv_at hl 3 rfl) ?_
  refine lv_iconst (v := (2 : Int32)) hx hb dL_law_164 (by decide) ?_
  refine lv_iadd hx hb dL_law_165 ?_
  refine va_sld hx hb hX hbl hbA hS h2 dL_law_166 ?_
  refine lv_i2l (v := (xs (x3 + (2 : Int32)).toNatClampNeg).toInt64) hx hb dL_law_167 rfl ?_
  refine lv_bipush (v := (32 : Int32)) hx hb dL_law_168 (by decide) ?_
  refine lv_lshl (v := (((xs (x3 + (2 : Int32)).toNatClampNeg).toInt64) <<< ((32 : Int32).toInt64 &&& 63))) hx hb dL_law_170 rfl ?_
  refine lv_aload_n hx hb dL_law_171 rfl (lv_at hl 0 rfl) ?_
  refine lv_iload_n hx hb dL_law_172 rfl (lv_at hl 3 rfl) ?_
  refine lv_iconst (v := (3 : Int32)) hx hb dL_law_173 (by decide) ?_
  refine lv_iadd hx hb dL_law_174 ?_
  refine va_sld hx hb hX hbl hbA hS h3 dL_law_175 ?_
  refine lv_i2l (v := (xs (x3 + (3 : Int32)).toNatClampNeg).toInt64) hx hb dL_law_176 rfl ?_
  refine lv_ldc2 hx hb hown (ht _ mw_1176) dL_law_177 ?_
  refine lv_land hx hb dL_law_180 ?_
  refine lv_lor hx hb dL_law_181 ?_
  have hw := hsm (xs (x3 + (1 : Int32)).toNatClampNeg) ((((xs (x3 + (2 : Int32)).toNatClampNeg).toInt64) <<< ((32 : Int32).toInt64 &&& 63)) ||| (((xs (x3 + (3 : Int32)).toNatClampNeg).toInt64) &&& (4294967295 : Int64))) (vI 1) (fI 0) (vI 32) (fI 21) hR.1
  refine kSi2 (kRV hx hb hml hown ht hN hK hB.1 hB.2.1 (c_X10_write l D cI cJ cZ cR (a 0) (a 1) (a 3) (a 4) (a 11) (a 18) (a 19) (a 24) (a 25) (a 30) (a 36) (a 2) (vI 0) (vI 1) (fI 0) (xs (x3 + (1 : Int32)).toNatClampNeg) ((((xs (x3 + (2 : Int32)).toNatClampNeg).toInt64) <<< ((32 : Int32).toInt64 &&& 63)) ||| (((xs (x3 + (3 : Int32)).toNatClampNeg).toInt64) &&& (4294967295 : Int64))) _ hw) [0, 1, 2] rfl rfl (T := TX10) (N := 11) rfl rfl mw_245 mw_246 mw_247 mw_1 mw_248 hdX10_write ⟨Nat.le_of_ble_eq_true rfl, Nat.le_of_ble_eq_true rfl⟩ ⟨rfl, rfl⟩ hl.1 rfl (Nat.le_of_ble_eq_true rfl) dL_law_182 (kRoom (by omega) (by omega))) hB hS hA [0, 1, 2] rfl (fun _ _ => rfl) (fun r_1 v_2 f_3 H locs hw hB hS => ?_)
  refine lv_aload_n hx hb dL_law_185 rfl (lv_at hl 2 rfl) ?_
  refine lv_aload_n hx hb dL_law_186 rfl (lv_at hl 0 rfl) ?_
  refine lv_iload_n hx hb dL_law_187 rfl (lv_at hl 3 rfl) ?_
  refine lv_iconst (v := (1 : Int32)) hx hb dL_law_188 (by decide) ?_
  refine lv_iadd hx hb dL_law_189 ?_
  refine va_sld hx hb hX hbl hbA hS h1 dL_law_190 ?_
  refine lv_aload_n hx hb dL_law_191 rfl (lv_at hl 0 rfl) ?_
  refine lv_iload_n hx hb dL_law_192 rfl (lv_at hl 3 rfl) ?_
  refine lv_iconst (v := (2 : Int32)) hx hb dL_law_193 (by decide) ?_
  refine lv_iadd hx hb dL_law_194 ?_
  refine va_sld hx hb hX hbl hbA hS h2 dL_law_195 ?_
  refine lv_i2l (v := (xs (x3 + (2 : Int32)).toNatClampNeg).toInt64) hx hb dL_law_196 rfl ?_
  refine lv_bipush (v := (32 : Int32)) hx hb dL_law_197 (by decide) ?_
  refine lv_lshl (v := (((xs (x3 + (2 : Int32)).toNatClampNeg).toInt64) <<< ((32 : Int32).toInt64 &&& 63))) hx hb dL_law_199 rfl ?_
  refine lv_aload_n hx hb dL_law_200 rfl (lv_at hl 0 rfl) ?_
  refine lv_iload_n hx hb dL_law_201 rfl (lv_at hl 3 rfl) ?_
  refine lv_iconst (v := (3 : Int32)) hx hb dL_law_202 (by decide) ?_
  refine lv_iadd hx hb dL_law_203 ?_
  refine va_sld hx hb hX hbl hbA hS h3 dL_law_204 ?_
  refine lv_i2l (v := (xs (x3 + (3 : Int32)).toNatClampNeg).toInt64) hx hb dL_law_205 rfl ?_
  refine lv_ldc2 hx hb hown (ht _ mw_1176) dL_law_206 ?_
  refine lv_land hx hb dL_law_209 ?_
  refine lv_lor hx hb dL_law_210 ?_
  replace hB := hB.turn
  refine kSi3 (kRV hx hb hml hown ht hN hK hB.1 hB.2.1 (c_X11_write l D cI cJ cZ cR (a 40) (a 41) (a 42) (a 43) (a 44) (a 45) (a 46) (a 47) (a 48) (a 49) (a 50) (a 51) (a 52) (a 53) (a 54) (a 55) (a 56) (a 57) (a 58) (a 59) (a 60) (vI 31) (vI 32) (vI 33) (vI 34) (vI 35) (vI 36) (vI 37) (vI 38) (vI 39) (vI 40) (vI 41) (vI 42) (vI 43) (vI 44) (vI 45) (vI 46) (vI 47) (fI 21) (xs (x3 + (1 : Int32)).toNatClampNeg) ((((xs (x3 + (2 : Int32)).toNatClampNeg).toInt64) <<< ((32 : Int32).toInt64 &&& 63)) ||| (((xs (x3 + (3 : Int32)).toNatClampNeg).toInt64) &&& (4294967295 : Int64))) _ hw) [0, 1] rfl rfl (T := TX11) (N := 37) rfl rfl mw_920 mw_921 mw_922 mw_11 mw_923 hdX11_write ⟨Nat.le_of_ble_eq_true rfl, Nat.le_of_ble_eq_true rfl⟩ ⟨rfl, rfl⟩ hl.1 rfl (Nat.le_of_ble_eq_true rfl) dL_law_211 (kRoom (by omega) (by omega))) hB hS hA [0, 1] rfl (fun _ _ _ => rfl) (fun r_4 v_5 v_6 f_7 H locs hw hB hS => ?_)
  replace hB := hB.turn
  refine lv_icmp_eq (tgt := 842) hx hb dL_law_214 (by decide) (fun _ => ?_) (fun z => absurd hw.1 z)
  exact hnext (fun i => if i = 1 then v_2 else if i = 31 then v_5 else if i = 32 then v_6 else vI i) vL (fun i => if i = 0 then f_3 else if i = 21 then f_7 else fI i) fL fk k0 k1 H locs _ _ ls ⟨hw.2, hR.2.1, hR.2.2.1, hR.2.2.2.1, hR.2.2.2.2⟩ hB hS (by omega) (by omega) hl
set_option maxHeartbeats 8000000 in
set_option maxRecDepth 100000 in
theorem law_wipe (hsm : S_wipe) {p : Program} {e : Env} {s : State} {m : MethodId} {below : List Frame} {meth : Method} {c : Code} {b L : Nat} {xs : Nat → Int32} (C0 : lw_At p s m meth c b L xs) (l : Launch) (D : va_G) (cI cJ cZ cR : ClassId) (hK : va_K D kCl (kTy cI cJ cZ cR) s) (a : Nat → Nat) (vI : Nat → Int32) (vL : Nat → Int64) (fI : Nat → Nat → Int32) (fL : Nat → Nat → Int64) (fk : Nat → Option Nat) (k0 k1 : Option KD) (hR : RR vI fI fk k0 k1) {H : Heap} {locs : List Loc} {nc ns : Nat} (hc : nc + 7 ≤ 600000) (hs : ns + 55 ≤ 7302249) (hB : kX D (fun q : Nat => s.heap.size ≤ q) (lwX cI cJ cZ cR a vI vL fI fL fk) (lwM cI cJ cZ a vI vL fI fL ++ (kWo cI k0 ++ kWo cI k1)) H) (hS : va_S (fun q : Nat => s.heap.size ≤ q) s.heap H locs) {ls : Array Slot} {x3 : Int32} (hl : lv_has ls 4 [(0, .ref b), (1, .ref (a 0)), (2, .ref (a 40)), (3, .int x3)]) (h1 : vp_in (x3 + (1 : Int32)) L) (h2 : vp_in (x3 + (2 : Int32)) L) (h3 : vp_in (x3 + (3 : Int32)) L) (hnext : ∀ (vI : Nat → Int32) (vL : Nat → Int64) (fI : Nat → Nat → Int32) (fL : Nat → Nat → Int64) (fk : Nat → Option Nat) (k0 k1 : Option KD) (H : Heap) (locs : List Loc) (nc2 ns2 : Nat) (ls : Array Slot), RR vI fI fk k0 k1 → kX D (fun q : Nat => s.heap.size ≤ q) (lwX cI cJ cZ cR a vI vL fI fL fk) (lwM cI cJ cZ a vI vL fI fL ++ (kWo cI k0 ++ kWo cI k1)) H → va_S (fun q : Nat => s.heap.size ≤ q) s.heap H locs → nc2 ≤ nc + 7 → ns2 ≤ ns + 55 → lv_has ls 4 [(0, .ref b), (1, .ref (a 0)), (2, .ref (a 40)), (3, .int x3)] → W p l e room_1 s m #[Value.ref b] below meth c H locs nc2 ns2 (lw_Z below #[Value.ref b] s) (F0 m 842 ls [])) : W p l e room_1 s m #[Value.ref b] below meth c H locs nc ns (lw_Z below #[Value.ref b] s) (F0 m 219 ls []) := by
  obtain ⟨hx, hb, hr, hml, hown0, hts, hX, hbl, hlocks, hgv⟩ := C0
  have hown : s.vm.findClass RL = some m.cls := hown0
  have ht : ∀ w ∈ kTb, w.before #[Value.ref b] s = true := fun w h => hts w (kTb_lw w h)
  have hN : kN s := kN.of hts
  have hA : ∀ q : Nat, s.heap.size ≤ q → (fun q : Nat => s.heap.size ≤ q) q := fun _ h => h
  have hbA : ¬ (fun q : Nat => s.heap.size ≤ q) b := Nat.not_le.mpr hbl
  refine lv_aload_n hx hb dL_law_219 rfl (lv_at hl 1 rfl) ?_
  have hw := hsm  (vI 1) (vI 32) (fI 0) (fI 21) hR.1
  refine kSi1 (kRV hx hb hml hown ht hN hK hB.1 hB.2.1 (c_X10_wipe l D cI cJ cZ cR (a 0) (a 1) (a 3) (a 4) (a 11) (a 18) (a 19) (a 24) (a 25) (a 30) (a 36) (a 2) (vI 0) (vI 1) _ hw) [0, 1] rfl rfl (T := TX10) (N := 11) rfl rfl mw_265 mw_266 mw_267 mw_1 mw_268 hdX10_wipe ⟨Nat.le_of_ble_eq_true rfl, Nat.le_of_ble_eq_true rfl⟩ ⟨rfl, rfl⟩ hl.1 rfl (Nat.le_of_ble_eq_true rfl) dL_law_220 (kRoom (by omega) (by omega))) hB hS hA [0, 1] rfl (fun _ => rfl) (fun r_1 v_2 H locs hw hB hS => ?_)
  refine lv_aload_n hx hb dL_law_223 rfl (lv_at hl 2 rfl) ?_
  replace hB := hB.turn
  refine kSi2 (kRV hx hb hml hown ht hN hK hB.1 hB.2.1 (c_X11_wipe l D cI cJ cZ cR (a 40) (a 41) (a 42) (a 43) (a 44) (a 45) (a 46) (a 47) (a 48) (a 49) (a 50) (a 51) (a 52) (a 53) (a 54) (a 55) (a 56) (a 57) (a 58) (a 59) (a 60) (vI 31) (vI 32) (vI 33) (vI 34) (vI 35) (vI 36) (vI 37) (vI 38) (vI 39) (vI 40) (vI 41) (vI 42) (vI 43) (vI 44) (vI 45) (vI 46) (vI 47) _ hw) [0] rfl rfl (T := TX11) (N := 37) rfl rfl mw_928 mw_929 mw_930 mw_11 mw_931 hdX11_wipe ⟨Nat.le_of_ble_eq_true rfl, Nat.le_of_ble_eq_true rfl⟩ ⟨rfl, rfl⟩ hl.1 rfl (Nat.le_of_ble_eq_true rfl) dL_law_224 (kRoom (by omega) (by omega))) hB hS hA [0] rfl (fun _ _ => rfl) (fun r_3 v_4 v_5 H locs hw hB hS => ?_)
  replace hB := hB.turn
  refine lv_icmp_eq (tgt := 842) hx hb dL_law_227 (by decide) (fun _ => ?_) (fun z => absurd hw.1 z)
  exact hnext (fun i => if i = 1 then v_2 else if i = 31 then v_4 else if i = 32 then v_5 else vI i) vL fI fL fk k0 k1 H locs _ _ ls ⟨hw.2, hR.2.1, hR.2.2.1, hR.2.2.2.1, hR.2.2.2.2⟩ hB hS (by omega) (by omega) hl
set_option maxHeartbeats 8000000 in
set_option maxRecDepth 100000 in
theorem law_fault (hsm : S_fault) {p : Program} {e : Env} {s : State} {m : MethodId} {below : List Frame} {meth : Method} {c : Code} {b L : Nat} {xs : Nat → Int32} (C0 : lw_At p s m meth c b L xs) (l : Launch) (D : va_G) (cI cJ cZ cR : ClassId) (hK : va_K D kCl (kTy cI cJ cZ cR) s) (a : Nat → Nat) (vI : Nat → Int32) (vL : Nat → Int64) (fI : Nat → Nat → Int32) (fL : Nat → Nat → Int64) (fk : Nat → Option Nat) (k0 k1 : Option KD) (hR : RR vI fI fk k0 k1) {H : Heap} {locs : List Loc} {nc ns : Nat} (hc : nc + 7 ≤ 600000) (hs : ns + 55 ≤ 7302249) (hB : kX D (fun q : Nat => s.heap.size ≤ q) (lwX cI cJ cZ cR a vI vL fI fL fk) (lwM cI cJ cZ a vI vL fI fL ++ (kWo cI k0 ++ kWo cI k1)) H) (hS : va_S (fun q : Nat => s.heap.size ≤ q) s.heap H locs) {ls : Array Slot} {x3 : Int32} (hl : lv_has ls 4 [(0, .ref b), (1, .ref (a 0)), (2, .ref (a 40)), (3, .int x3)]) (h1 : vp_in (x3 + (1 : Int32)) L) (h2 : vp_in (x3 + (2 : Int32)) L) (h3 : vp_in (x3 + (3 : Int32)) L) (hnext : ∀ (vI : Nat → Int32) (vL : Nat → Int64) (fI : Nat → Nat → Int32) (fL : Nat → Nat → Int64) (fk : Nat → Option Nat) (k0 k1 : Option KD) (H : Heap) (locs : List Loc) (nc2 ns2 : Nat) (ls : Array Slot), RR vI fI fk k0 k1 → kX D (fun q : Nat => s.heap.size ≤ q) (lwX cI cJ cZ cR a vI vL fI fL fk) (lwM cI cJ cZ a vI vL fI fL ++ (kWo cI k0 ++ kWo cI k1)) H → va_S (fun q : Nat => s.heap.size ≤ q) s.heap H locs → nc2 ≤ nc + 7 → ns2 ≤ ns + 55 → lv_has ls 4 [(0, .ref b), (1, .ref (a 0)), (2, .ref (a 40)), (3, .int x3)] → W p l e room_1 s m #[Value.ref b] below meth c H locs nc2 ns2 (lw_Z below #[Value.ref b] s) (F0 m 842 ls [])) : W p l e room_1 s m #[Value.ref b] below meth c H locs nc ns (lw_Z below #[Value.ref b] s) (F0 m 232 ls []) := by
  obtain ⟨hx, hb, hr, hml, hown0, hts, hX, hbl, hlocks, hgv⟩ := C0
  have hown : s.vm.findClass RL = some m.cls := hown0
  have ht : ∀ w ∈ kTb, w.before #[Value.ref b] s = true := fun w h => hts w (kTb_lw w h)
  have hN : kN s := kN.of hts
  have hA : ∀ q : Nat, s.heap.size ≤ q → (fun q : Nat => s.heap.size ≤ q) q := fun _ h => h
  have hbA : ¬ (fun q : Nat => s.heap.size ≤ q) b := Nat.not_le.mpr hbl
  refine lv_aload_n hx hb dL_law_232 rfl (lv_at hl 1 rfl) ?_
  have hw := hsm  (vI 1) (fI 0) (vI 3) (vI 4) (vI 5) (vI 6) (vI 7) (fI 3) (fI 4) (fI 1) (fI 2) (vI 32) (vI 40) (fI 26) (fI 21) (fI 28) (fI 27) hR.1
  refine kSi10 (kRV hx hb hml hown ht hN hK hB.1 hB.2.1 (c_X10_fault l D cI cJ cZ cR (a 0) (a 1) (a 3) (a 4) (a 11) (a 18) (a 19) (a 24) (a 25) (a 30) (a 36) (a 2) (a 5) (a 10) (a 6) (a 7) (a 8) (a 9) (vI 0) (vI 2) (vI 1) (fI 0) (vI 3) (vI 4) (vI 5) (vI 6) (vI 7) (fI 3) (fI 4) (fI 1) (fI 2) _ hw) [0, 3, 1, 2, 4, 5, 8, 9, 6, 7] rfl rfl (T := TX10) (N := 11) rfl rfl mw_273 mw_274 mw_275 mw_1 mw_276 hdX10_fault ⟨Nat.le_of_ble_eq_true rfl, Nat.le_of_ble_eq_true rfl⟩ ⟨rfl, rfl⟩ hl.1 rfl (Nat.le_of_ble_eq_true rfl) dL_law_233 (kRoom (by omega) (by omega))) hB hS hA [0, 3, 1, 2, 4, 5, 8, 9, 6, 7] rfl (fun _ _ _ _ _ _ _ _ _ _ => rfl) (fun r_1 v_2 v_3 v_4 v_5 v_6 v_7 f_8 f_9 f_10 f_11 H locs hw hB hS => ?_)
  refine lv_aload_n hx hb dL_law_236 rfl (lv_at hl 2 rfl) ?_
  replace hB := hB.turn
  refine kSi8 (kRV hx hb hml hown ht hN hK hB.1 hB.2.1 (c_X11_fault l D cI cJ cZ cR (a 40) (a 41) (a 42) (a 43) (a 44) (a 45) (a 46) (a 47) (a 48) (a 49) (a 50) (a 51) (a 52) (a 53) (a 54) (a 55) (a 56) (a 57) (a 58) (a 59) (a 60) (vI 31) (vI 32) (vI 33) (vI 34) (vI 35) (vI 36) (vI 37) (vI 38) (vI 39) (vI 40) (vI 41) (vI 42) (vI 43) (vI 44) (vI 45) (vI 46) (vI 47) (fI 26) (fI 21) (fI 28) (fI 27) _ hw) [0, 6, 1, 8, 7] rfl rfl (T := TX11) (N := 37) rfl rfl mw_932 mw_933 mw_934 mw_11 mw_935 hdX11_fault ⟨Nat.le_of_ble_eq_true rfl, Nat.le_of_ble_eq_true rfl⟩ ⟨rfl, rfl⟩ hl.1 rfl (Nat.le_of_ble_eq_true rfl) dL_law_237 (kRoom (by omega) (by omega))) hB hS hA [0, 6, 1, 8, 7] rfl (fun _ _ _ _ _ _ _ _ => rfl) (fun r_12 v_13 v_14 v_15 v_16 v_17 f_18 f_19 f_20 H locs hw hB hS => ?_)
  replace hB := hB.turn
  refine lv_icmp_eq (tgt := 842) hx hb dL_law_240 (by decide) (fun _ => ?_) (fun z => absurd hw z)
  exact hnext (fun i => if i = 2 then v_2 else if i = 3 then v_3 else if i = 4 then v_4 else if i = 5 then v_5 else if i = 6 then v_6 else if i = 7 then v_7 else if i = 31 then v_13 else if i = 33 then v_14 else if i = 40 then v_15 else if i = 41 then v_16 else if i = 42 then v_17 else vI i) vL (fun i => if i = 1 then f_10 else if i = 2 then f_11 else if i = 3 then f_8 else if i = 4 then f_9 else if i = 26 then f_18 else if i = 27 then f_20 else if i = 28 then f_19 else fI i) fL fk k0 k1 H locs _ _ ls ⟨hR.1, hR.2.1, hR.2.2.1, hR.2.2.2.1, hR.2.2.2.2⟩ hB hS (by omega) (by omega) hl
set_option maxHeartbeats 8000000 in
set_option maxRecDepth 100000 in
theorem law_about (hsm : S_about) {p : Program} {e : Env} {s : State} {m : MethodId} {below : List Frame} {meth : Method} {c : Code} {b L : Nat} {xs : Nat → Int32} (C0 : lw_At p s m meth c b L xs) (l : Launch) (D : va_G) (cI cJ cZ cR : ClassId) (hK : va_K D kCl (kTy cI cJ cZ cR) s) (a : Nat → Nat) (vI : Nat → Int32) (vL : Nat → Int64) (fI : Nat → Nat → Int32) (fL : Nat → Nat → Int64) (fk : Nat → Option Nat) (k0 k1 : Option KD) (hR : RR vI fI fk k0 k1) {H : Heap} {locs : List Loc} {nc ns : Nat} (hc : nc + 7 ≤ 600000) (hs : ns + 55 ≤ 7302249) (hB : kX D (fun q : Nat => s.heap.size ≤ q) (lwX cI cJ cZ cR a vI vL fI fL fk) (lwM cI cJ cZ a vI vL fI fL ++ (kWo cI k0 ++ kWo cI k1)) H) (hS : va_S (fun q : Nat => s.heap.size ≤ q) s.heap H locs) {ls : Array Slot} {x3 : Int32} (hl : lv_has ls 4 [(0, .ref b), (1, .ref (a 0)), (2, .ref (a 40)), (3, .int x3)]) (h1 : vp_in (x3 + (1 : Int32)) L) (h2 : vp_in (x3 + (2 : Int32)) L) (h3 : vp_in (x3 + (3 : Int32)) L) (hnext : ∀ (vI : Nat → Int32) (vL : Nat → Int64) (fI : Nat → Nat → Int32) (fL : Nat → Nat → Int64) (fk : Nat → Option Nat) (k0 k1 : Option KD) (H : Heap) (locs : List Loc) (nc2 ns2 : Nat) (ls : Array Slot), RR vI fI fk k0 k1 → kX D (fun q : Nat => s.heap.size ≤ q) (lwX cI cJ cZ cR a vI vL fI fL fk) (lwM cI cJ cZ a vI vL fI fL ++ (kWo cI k0 ++ kWo cI k1)) H → va_S (fun q : Nat => s.heap.size ≤ q) s.heap H locs → nc2 ≤ nc + 7 → ns2 ≤ ns + 55 → lv_has ls 4 [(0, .ref b), (1, .ref (a 0)), (2, .ref (a 40)), (3, .int x3)] → W p l e room_1 s m #[Value.ref b] below meth c H locs nc2 ns2 (lw_Z below #[Value.ref b] s) (F0 m 842 ls [])) : W p l e room_1 s m #[Value.ref b] below meth c H locs nc ns (lw_Z below #[Value.ref b] s) (F0 m 258 ls []) := by
  obtain ⟨hx, hb, hr, hml, hown0, hts, hX, hbl, hlocks, hgv⟩ := C0
  have hown : s.vm.findClass RL = some m.cls := hown0
  have ht : ∀ w ∈ kTb, w.before #[Value.ref b] s = true := fun w h => hts w (kTb_lw w h)
  have hN : kN s := kN.of hts
  have hA : ∀ q : Nat, s.heap.size ≤ q → (fun q : Nat => s.heap.size ≤ q) q := fun _ h => h
  have hbA : ¬ (fun q : Nat => s.heap.size ≤ q) b := Nat.not_le.mpr hbl
  refine lv_aload_n hx hb dL_law_258 rfl (lv_at hl 1 rfl) ?_
  refine lv_aload_n hx hb dL_law_259 rfl (lv_at hl 0 rfl) ?_
  refine lv_iload_n hx hb dL_law_260 rfl (lv_at hl 3 rfl) ?_
  refine lv_iconst (v := (1 : Int32)) hx hb dL_law_261 (by decide) ?_
  refine lv_iadd hx hb dL_law_262 ?_
  refine va_sld hx hb hX hbl hbA hS h1 dL_law_263 ?_
  have hw := hsm (xs (x3 + (1 : Int32)).toNatClampNeg) (vI 8) (vI 9) (fI 10) (vI 1) (vI 26) (vI 10) (vI 11) (vI 12) (vI 32) (vI 34) (vI 35) (vI 36) (vI 37) (vI 38) (vI 39) (vI 43) (fI 22) (fI 0) (fI 21) (fI 6) (fI 7) (fI 8) (fI 9) (vI 0) (vI 13) (fI 11) (fI 12) (fI 13) (fI 23) (fI 24) (fI 25) (fI 18) (fI 19) (fI 29) (fI 30) hR.1 hR.2.1 hR.2.2.1
  refine kSi0 (kRV hx hb hml hown ht hN hK hB.1 hB.2.1 (c_X10_about l D cI cJ cZ cR (a 0) (a 1) (a 3) (a 4) (a 11) (a 18) (a 19) (a 24) (a 25) (a 30) (a 36) (a 12) (a 17) (a 2) (a 31) (a 32) (a 33) (a 34) (a 35) (a 13) (a 14) (a 15) (a 16) (vI 0) (vI 8) (vI 9) (fI 10) (vI 1) (vI 26) (vI 10) (vI 11) (vI 12) (xs (x3 + (1 : Int32)).toNatClampNeg) _ hw) [0, 11, 17, 1, 30, 12] rfl rfl (T := TX10) (N := 11) rfl rfl mw_384 mw_385 mw_386 mw_1 mw_387 hdX10_about ⟨Nat.le_of_ble_eq_true rfl, Nat.le_of_ble_eq_true rfl⟩ ⟨rfl, rfl⟩ hl.1 rfl (Nat.le_of_ble_eq_true rfl) dL_law_264 (kRoom (by omega) (by omega))) hB hS hA [0, 11, 17, 1, 30, 12] rfl rfl (fun r_1 H locs hw hB hS => ?_)
  refine lv_aload_n hx hb dL_law_267 rfl (lv_at hl 2 rfl) ?_
  refine lv_aload_n hx hb dL_law_268 rfl (lv_at hl 0 rfl) ?_
  refine lv_iload_n hx hb dL_law_269 rfl (lv_at hl 3 rfl) ?_
  refine lv_iconst (v := (1 : Int32)) hx hb dL_law_270 (by decide) ?_
  refine lv_iadd hx hb dL_law_271 ?_
  refine va_sld hx hb hX hbl hbA hS h1 dL_law_272 ?_
  replace hB := hB.turn
  refine kSi1 (kRV hx hb hml hown ht hN hK hB.1 hB.2.1 (c_X11_about l D cI cJ cZ cR (a 40) (a 41) (a 42) (a 43) (a 44) (a 45) (a 46) (a 47) (a 48) (a 49) (a 50) (a 51) (a 52) (a 53) (a 54) (a 55) (a 56) (a 57) (a 58) (a 59) (a 60) (vI 31) (vI 32) (vI 33) (vI 34) (vI 35) (vI 36) (vI 37) (vI 38) (vI 39) (vI 40) (vI 41) (vI 42) (vI 43) (vI 44) (vI 45) (vI 46) (vI 47) (fI 22) (xs (x3 + (1 : Int32)).toNatClampNeg) _ hw) [0, 2] rfl rfl (T := TX11) (N := 37) rfl rfl mw_960 mw_961 mw_962 mw_11 mw_963 hdX11_about ⟨Nat.le_of_ble_eq_true rfl, Nat.le_of_ble_eq_true rfl⟩ ⟨rfl, rfl⟩ hl.1 rfl (Nat.le_of_ble_eq_true rfl) dL_law_273 (kRoom (by omega) (by omega))) hB hS hA [0, 2] rfl (fun _ => rfl) (fun r_2 v_3 H locs hw hB hS => ?_)
  replace hB := hB.turn
  refine lv_icmp_eq (tgt := 842) hx hb dL_law_276 (by decide) (fun _ => ?_) (fun z => absurd hw z)
  exact hnext (fun i => if i = 31 then v_3 else vI i) vL fI fL fk k0 k1 H locs _ _ ls ⟨hR.1, hR.2.1, hR.2.2.1, hR.2.2.2.1, hR.2.2.2.2⟩ hB hS (by omega) (by omega) hl
set_option maxHeartbeats 8000000 in
set_option maxRecDepth 100000 in
theorem law_where (hsm : S_where) {p : Program} {e : Env} {s : State} {m : MethodId} {below : List Frame} {meth : Method} {c : Code} {b L : Nat} {xs : Nat → Int32} (C0 : lw_At p s m meth c b L xs) (l : Launch) (D : va_G) (cI cJ cZ cR : ClassId) (hK : va_K D kCl (kTy cI cJ cZ cR) s) (a : Nat → Nat) (vI : Nat → Int32) (vL : Nat → Int64) (fI : Nat → Nat → Int32) (fL : Nat → Nat → Int64) (fk : Nat → Option Nat) (k0 k1 : Option KD) (hR : RR vI fI fk k0 k1) {H : Heap} {locs : List Loc} {nc ns : Nat} (hc : nc + 7 ≤ 600000) (hs : ns + 55 ≤ 7302249) (hB : kX D (fun q : Nat => s.heap.size ≤ q) (lwX cI cJ cZ cR a vI vL fI fL fk) (lwM cI cJ cZ a vI vL fI fL ++ (kWo cI k0 ++ kWo cI k1)) H) (hS : va_S (fun q : Nat => s.heap.size ≤ q) s.heap H locs) {ls : Array Slot} {x3 : Int32} (hl : lv_has ls 4 [(0, .ref b), (1, .ref (a 0)), (2, .ref (a 40)), (3, .int x3)]) (h1 : vp_in (x3 + (1 : Int32)) L) (h2 : vp_in (x3 + (2 : Int32)) L) (h3 : vp_in (x3 + (3 : Int32)) L) (hnext : ∀ (vI : Nat → Int32) (vL : Nat → Int64) (fI : Nat → Nat → Int32) (fL : Nat → Nat → Int64) (fk : Nat → Option Nat) (k0 k1 : Option KD) (H : Heap) (locs : List Loc) (nc2 ns2 : Nat) (ls : Array Slot), RR vI fI fk k0 k1 → kX D (fun q : Nat => s.heap.size ≤ q) (lwX cI cJ cZ cR a vI vL fI fL fk) (lwM cI cJ cZ a vI vL fI fL ++ (kWo cI k0 ++ kWo cI k1)) H → va_S (fun q : Nat => s.heap.size ≤ q) s.heap H locs → nc2 ≤ nc + 7 → ns2 ≤ ns + 55 → lv_has ls 4 [(0, .ref b), (1, .ref (a 0)), (2, .ref (a 40)), (3, .int x3)] → W p l e room_1 s m #[Value.ref b] below meth c H locs nc2 ns2 (lw_Z below #[Value.ref b] s) (F0 m 842 ls [])) : W p l e room_1 s m #[Value.ref b] below meth c H locs nc ns (lw_Z below #[Value.ref b] s) (F0 m 281 ls []) := by
  obtain ⟨hx, hb, hr, hml, hown0, hts, hX, hbl, hlocks, hgv⟩ := C0
  have hown : s.vm.findClass RL = some m.cls := hown0
  have ht : ∀ w ∈ kTb, w.before #[Value.ref b] s = true := fun w h => hts w (kTb_lw w h)
  have hN : kN s := kN.of hts
  have hA : ∀ q : Nat, s.heap.size ≤ q → (fun q : Nat => s.heap.size ≤ q) q := fun _ h => h
  have hbA : ¬ (fun q : Nat => s.heap.size ≤ q) b := Nat.not_le.mpr hbl
  refine lv_aload_n hx hb dL_law_281 rfl (lv_at hl 1 rfl) ?_
  refine lv_aload_n hx hb dL_law_282 rfl (lv_at hl 0 rfl) ?_
  refine lv_iload_n hx hb dL_law_283 rfl (lv_at hl 3 rfl) ?_
  refine lv_iconst (v := (1 : Int32)) hx hb dL_law_284 (by decide) ?_
  refine lv_iadd hx hb dL_law_285 ?_
  refine va_sld hx hb hX hbl hbA hS h1 dL_law_286 ?_
  have hw := hsm (xs (x3 + (1 : Int32)).toNatClampNeg) (vI 8) (vI 11) (vI 12) (fI 7) (fI 22) (vI 10) (vI 9) (fI 6) (fI 8) (fI 9) (fI 10) (vI 0) (vI 13) (fI 11) (fI 12) (fI 13) (vI 34) (vI 35) (vI 36) (vI 37) (vI 38) (vI 39) (fI 23) (fI 24) (fI 25) hR.2.1
  refine kSi0 (kRV hx hb hml hown ht hN hK hB.1 hB.2.1 (c_X10_where l D cI cJ cZ cR (a 0) (a 1) (a 3) (a 4) (a 11) (a 18) (a 19) (a 24) (a 25) (a 30) (a 36) (a 12) (a 17) (a 13) (a 14) (a 15) (a 16) (vI 0) (vI 8) (vI 9) (vI 10) (vI 11) (vI 12) (fI 7) (xs (x3 + (1 : Int32)).toNatClampNeg) _ hw) [0, 11, 12, 14] rfl rfl (T := TX10) (N := 11) rfl rfl mw_433 mw_434 mw_435 mw_1 mw_436 hdX10_where ⟨Nat.le_of_ble_eq_true rfl, Nat.le_of_ble_eq_true rfl⟩ ⟨rfl, rfl⟩ hl.1 rfl (Nat.le_of_ble_eq_true rfl) dL_law_287 (kRoom (by omega) (by omega))) hB hS hA [0, 11, 12, 14] rfl rfl (fun r_1 H locs hw hB hS => ?_)
  refine lv_aload_n hx hb dL_law_290 rfl (lv_at hl 2 rfl) ?_
  refine lv_aload_n hx hb dL_law_291 rfl (lv_at hl 0 rfl) ?_
  refine lv_iload_n hx hb dL_law_292 rfl (lv_at hl 3 rfl) ?_
  refine lv_iconst (v := (1 : Int32)) hx hb dL_law_293 (by decide) ?_
  refine lv_iadd hx hb dL_law_294 ?_
  refine va_sld hx hb hX hbl hbA hS h1 dL_law_295 ?_
  replace hB := hB.turn
  refine kSi1 (kRV hx hb hml hown ht hN hK hB.1 hB.2.1 (c_X11_where l D cI cJ cZ cR (a 40) (a 41) (a 42) (a 43) (a 44) (a 45) (a 46) (a 47) (a 48) (a 49) (a 50) (a 51) (a 52) (a 53) (a 54) (a 55) (a 56) (a 57) (a 58) (a 59) (a 60) (vI 31) (vI 32) (vI 33) (vI 34) (vI 35) (vI 36) (vI 37) (vI 38) (vI 39) (vI 40) (vI 41) (vI 42) (vI 43) (vI 44) (vI 45) (vI 46) (vI 47) (fI 22) (xs (x3 + (1 : Int32)).toNatClampNeg) _ hw) [0, 2] rfl rfl (T := TX11) (N := 37) rfl rfl mw_968 mw_969 mw_970 mw_11 mw_971 hdX11_where ⟨Nat.le_of_ble_eq_true rfl, Nat.le_of_ble_eq_true rfl⟩ ⟨rfl, rfl⟩ hl.1 rfl (Nat.le_of_ble_eq_true rfl) dL_law_296 (kRoom (by omega) (by omega))) hB hS hA [0, 2] rfl (fun _ => rfl) (fun r_2 v_3 H locs hw hB hS => ?_)
  replace hB := hB.turn
  refine lv_icmp_eq (tgt := 842) hx hb dL_law_299 (by decide) (fun _ => ?_) (fun z => absurd hw z)
  exact hnext (fun i => if i = 31 then v_3 else vI i) vL fI fL fk k0 k1 H locs _ _ ls ⟨hR.1, hR.2.1, hR.2.2.1, hR.2.2.2.1, hR.2.2.2.2⟩ hB hS (by omega) (by omega) hl
set_option maxHeartbeats 8000000 in
set_option maxRecDepth 100000 in
theorem law_wants (hsm : S_wants) {p : Program} {e : Env} {s : State} {m : MethodId} {below : List Frame} {meth : Method} {c : Code} {b L : Nat} {xs : Nat → Int32} (C0 : lw_At p s m meth c b L xs) (l : Launch) (D : va_G) (cI cJ cZ cR : ClassId) (hK : va_K D kCl (kTy cI cJ cZ cR) s) (a : Nat → Nat) (vI : Nat → Int32) (vL : Nat → Int64) (fI : Nat → Nat → Int32) (fL : Nat → Nat → Int64) (fk : Nat → Option Nat) (k0 k1 : Option KD) (hR : RR vI fI fk k0 k1) {H : Heap} {locs : List Loc} {nc ns : Nat} (hc : nc + 7 ≤ 600000) (hs : ns + 55 ≤ 7302249) (hB : kX D (fun q : Nat => s.heap.size ≤ q) (lwX cI cJ cZ cR a vI vL fI fL fk) (lwM cI cJ cZ a vI vL fI fL ++ (kWo cI k0 ++ kWo cI k1)) H) (hS : va_S (fun q : Nat => s.heap.size ≤ q) s.heap H locs) {ls : Array Slot} {x3 : Int32} (hl : lv_has ls 4 [(0, .ref b), (1, .ref (a 0)), (2, .ref (a 40)), (3, .int x3)]) (h1 : vp_in (x3 + (1 : Int32)) L) (h2 : vp_in (x3 + (2 : Int32)) L) (h3 : vp_in (x3 + (3 : Int32)) L) (hnext : ∀ (vI : Nat → Int32) (vL : Nat → Int64) (fI : Nat → Nat → Int32) (fL : Nat → Nat → Int64) (fk : Nat → Option Nat) (k0 k1 : Option KD) (H : Heap) (locs : List Loc) (nc2 ns2 : Nat) (ls : Array Slot), RR vI fI fk k0 k1 → kX D (fun q : Nat => s.heap.size ≤ q) (lwX cI cJ cZ cR a vI vL fI fL fk) (lwM cI cJ cZ a vI vL fI fL ++ (kWo cI k0 ++ kWo cI k1)) H → va_S (fun q : Nat => s.heap.size ≤ q) s.heap H locs → nc2 ≤ nc + 7 → ns2 ≤ ns + 55 → lv_has ls 4 [(0, .ref b), (1, .ref (a 0)), (2, .ref (a 40)), (3, .int x3)] → W p l e room_1 s m #[Value.ref b] below meth c H locs nc2 ns2 (lw_Z below #[Value.ref b] s) (F0 m 842 ls [])) : W p l e room_1 s m #[Value.ref b] below meth c H locs nc ns (lw_Z below #[Value.ref b] s) (F0 m 304 ls []) := by
  obtain ⟨hx, hb, hr, hml, hown0, hts, hX, hbl, hlocks, hgv⟩ := C0
  have hown : s.vm.findClass RL = some m.cls := hown0
  have ht : ∀ w ∈ kTb, w.before #[Value.ref b] s = true := fun w h => hts w (kTb_lw w h)
  have hN : kN s := kN.of hts
  have hA : ∀ q : Nat, s.heap.size ≤ q → (fun q : Nat => s.heap.size ≤ q) q := fun _ h => h
  have hbA : ¬ (fun q : Nat => s.heap.size ≤ q) b := Nat.not_le.mpr hbl
  refine lv_aload_n hx hb dL_law_304 rfl (lv_at hl 1 rfl) ?_
  refine lv_aload_n hx hb dL_law_305 rfl (lv_at hl 0 rfl) ?_
  refine lv_iload_n hx hb dL_law_306 rfl (lv_at hl 3 rfl) ?_
  refine lv_iconst (v := (1 : Int32)) hx hb dL_law_307 (by decide) ?_
  refine lv_iadd hx hb dL_law_308 ?_
  refine va_sld hx hb hX hbl hbA hS h1 dL_law_309 ?_
  have hw := hsm (xs (x3 + (1 : Int32)).toNatClampNeg) (vI 11) (vI 12) (fI 6) (fI 22) (fI 23) (vI 10) (vI 8) (vI 9) (fI 7) (fI 8) (fI 9) (fI 10) (vI 0) (vI 13) (fI 11) (fI 12) (fI 13) (vI 34) (vI 35) (vI 36) (vI 37) (vI 38) (vI 39) (fI 24) (fI 25) hR.2.1
  refine kSi0 (kRV hx hb hml hown ht hN hK hB.1 hB.2.1 (c_X10_wants l D cI cJ cZ cR (a 0) (a 1) (a 3) (a 4) (a 11) (a 18) (a 19) (a 24) (a 25) (a 30) (a 36) (a 12) (a 17) (a 13) (a 14) (a 15) (a 16) (vI 0) (vI 8) (vI 9) (vI 10) (vI 11) (vI 12) (fI 6) (xs (x3 + (1 : Int32)).toNatClampNeg) _ hw) [0, 11, 12, 13] rfl rfl (T := TX10) (N := 11) rfl rfl mw_454 mw_455 mw_456 mw_1 mw_457 hdX10_wants ⟨Nat.le_of_ble_eq_true rfl, Nat.le_of_ble_eq_true rfl⟩ ⟨rfl, rfl⟩ hl.1 rfl (Nat.le_of_ble_eq_true rfl) dL_law_310 (kRoom (by omega) (by omega))) hB hS hA [0, 11, 12, 13] rfl rfl (fun r_1 H locs hw hB hS => ?_)
  refine lv_aload_n hx hb dL_law_313 rfl (lv_at hl 2 rfl) ?_
  refine lv_aload_n hx hb dL_law_314 rfl (lv_at hl 0 rfl) ?_
  refine lv_iload_n hx hb dL_law_315 rfl (lv_at hl 3 rfl) ?_
  refine lv_iconst (v := (1 : Int32)) hx hb dL_law_316 (by decide) ?_
  refine lv_iadd hx hb dL_law_317 ?_
  refine va_sld hx hb hX hbl hbA hS h1 dL_law_318 ?_
  replace hB := hB.turn
  refine kSi1 (kRV hx hb hml hown ht hN hK hB.1 hB.2.1 (c_X11_wants l D cI cJ cZ cR (a 40) (a 41) (a 42) (a 43) (a 44) (a 45) (a 46) (a 47) (a 48) (a 49) (a 50) (a 51) (a 52) (a 53) (a 54) (a 55) (a 56) (a 57) (a 58) (a 59) (a 60) (vI 31) (vI 32) (vI 33) (vI 34) (vI 35) (vI 36) (vI 37) (vI 38) (vI 39) (vI 40) (vI 41) (vI 42) (vI 43) (vI 44) (vI 45) (vI 46) (vI 47) (fI 22) (fI 23) (xs (x3 + (1 : Int32)).toNatClampNeg) _ hw) [0, 2, 3] rfl rfl (T := TX11) (N := 37) rfl rfl mw_977 mw_978 mw_979 mw_11 mw_980 hdX11_wants ⟨Nat.le_of_ble_eq_true rfl, Nat.le_of_ble_eq_true rfl⟩ ⟨rfl, rfl⟩ hl.1 rfl (Nat.le_of_ble_eq_true rfl) dL_law_319 (kRoom (by omega) (by omega))) hB hS hA [0, 2, 3] rfl (fun _ => rfl) (fun r_2 v_3 H locs hw hB hS => ?_)
  replace hB := hB.turn
  refine lv_icmp_eq (tgt := 842) hx hb dL_law_322 (by decide) (fun _ => ?_) (fun z => absurd hw z)
  exact hnext (fun i => if i = 31 then v_3 else vI i) vL fI fL fk k0 k1 H locs _ _ ls ⟨hR.1, hR.2.1, hR.2.2.1, hR.2.2.2.1, hR.2.2.2.2⟩ hB hS (by omega) (by omega) hl
set_option maxHeartbeats 8000000 in
set_option maxRecDepth 100000 in
theorem law_may (hsm : S_may) {p : Program} {e : Env} {s : State} {m : MethodId} {below : List Frame} {meth : Method} {c : Code} {b L : Nat} {xs : Nat → Int32} (C0 : lw_At p s m meth c b L xs) (l : Launch) (D : va_G) (cI cJ cZ cR : ClassId) (hK : va_K D kCl (kTy cI cJ cZ cR) s) (a : Nat → Nat) (vI : Nat → Int32) (vL : Nat → Int64) (fI : Nat → Nat → Int32) (fL : Nat → Nat → Int64) (fk : Nat → Option Nat) (k0 k1 : Option KD) (hR : RR vI fI fk k0 k1) {H : Heap} {locs : List Loc} {nc ns : Nat} (hc : nc + 7 ≤ 600000) (hs : ns + 55 ≤ 7302249) (hB : kX D (fun q : Nat => s.heap.size ≤ q) (lwX cI cJ cZ cR a vI vL fI fL fk) (lwM cI cJ cZ a vI vL fI fL ++ (kWo cI k0 ++ kWo cI k1)) H) (hS : va_S (fun q : Nat => s.heap.size ≤ q) s.heap H locs) {ls : Array Slot} {x3 : Int32} (hl : lv_has ls 4 [(0, .ref b), (1, .ref (a 0)), (2, .ref (a 40)), (3, .int x3)]) (h1 : vp_in (x3 + (1 : Int32)) L) (h2 : vp_in (x3 + (2 : Int32)) L) (h3 : vp_in (x3 + (3 : Int32)) L) (hnext : ∀ (vI : Nat → Int32) (vL : Nat → Int64) (fI : Nat → Nat → Int32) (fL : Nat → Nat → Int64) (fk : Nat → Option Nat) (k0 k1 : Option KD) (H : Heap) (locs : List Loc) (nc2 ns2 : Nat) (ls : Array Slot), RR vI fI fk k0 k1 → kX D (fun q : Nat => s.heap.size ≤ q) (lwX cI cJ cZ cR a vI vL fI fL fk) (lwM cI cJ cZ a vI vL fI fL ++ (kWo cI k0 ++ kWo cI k1)) H → va_S (fun q : Nat => s.heap.size ≤ q) s.heap H locs → nc2 ≤ nc + 7 → ns2 ≤ ns + 55 → lv_has ls 4 [(0, .ref b), (1, .ref (a 0)), (2, .ref (a 40)), (3, .int x3)] → W p l e room_1 s m #[Value.ref b] below meth c H locs nc2 ns2 (lw_Z below #[Value.ref b] s) (F0 m 842 ls [])) : W p l e room_1 s m #[Value.ref b] below meth c H locs nc ns (lw_Z below #[Value.ref b] s) (F0 m 327 ls []) := by
  obtain ⟨hx, hb, hr, hml, hown0, hts, hX, hbl, hlocks, hgv⟩ := C0
  have hown : s.vm.findClass RL = some m.cls := hown0
  have ht : ∀ w ∈ kTb, w.before #[Value.ref b] s = true := fun w h => hts w (kTb_lw w h)
  have hN : kN s := kN.of hts
  have hA : ∀ q : Nat, s.heap.size ≤ q → (fun q : Nat => s.heap.size ≤ q) q := fun _ h => h
  have hbA : ¬ (fun q : Nat => s.heap.size ≤ q) b := Nat.not_le.mpr hbl
  refine lv_aload_n hx hb dL_law_327 rfl (lv_at hl 1 rfl) ?_
  refine lv_aload_n hx hb dL_law_328 rfl (lv_at hl 0 rfl) ?_
  refine lv_iload_n hx hb dL_law_329 rfl (lv_at hl 3 rfl) ?_
  refine lv_iconst (v := (1 : Int32)) hx hb dL_law_330 (by decide) ?_
  refine lv_iadd hx hb dL_law_331 ?_
  refine va_sld hx hb hX hbl hbA hS h1 dL_law_332 ?_
  refine lv_aload_n hx hb dL_law_333 rfl (lv_at hl 0 rfl) ?_
  refine lv_iload_n hx hb dL_law_334 rfl (lv_at hl 3 rfl) ?_
  refine lv_iconst (v := (2 : Int32)) hx hb dL_law_335 (by decide) ?_
  refine lv_iadd hx hb dL_law_336 ?_
  refine va_sld hx hb hX hbl hbA hS h2 dL_law_337 ?_
  refine lv_if_eq (tgt := 345) hx hb dL_law_338 (by decide) (fun c_1 => ?_) (fun c_1 => ?_)
  · refine lv_iconst (v := (0 : Int32)) hx hb dL_law_345 (by decide) ?_
    have hw := hsm (xs (x3 + (1 : Int32)).toNatClampNeg) (0 : Int32) (vI 8) (vI 10) (fI 9) (fI 8) (vI 34) (fI 22) (fI 23) (vI 11) (vI 12) (vI 9) (fI 6) (fI 7) (fI 10) (vI 0) (vI 13) (fI 11) (fI 12) (fI 13) (vI 35) (vI 36) (vI 37) (vI 38) (vI 39) (fI 24) (fI 25) hR.2.1 (Or.inl rfl)
    refine kSi0 (kRV hx hb hml hown ht hN hK hB.1 hB.2.1 (c_X10_may l D cI cJ cZ cR (a 0) (a 1) (a 3) (a 4) (a 11) (a 18) (a 19) (a 24) (a 25) (a 30) (a 36) (a 12) (a 17) (a 13) (a 14) (a 15) (a 16) (vI 0) (vI 8) (vI 9) (vI 10) (vI 11) (vI 12) (fI 9) (fI 8) (xs (x3 + (1 : Int32)).toNatClampNeg) (0 : Int32) _ hw) [0, 11, 12, 16, 15] rfl rfl (T := TX10) (N := 11) rfl rfl mw_462 mw_463 mw_464 mw_1 mw_465 hdX10_may ⟨Nat.le_of_ble_eq_true rfl, Nat.le_of_ble_eq_true rfl⟩ ⟨rfl, rfl⟩ hl.1 rfl (Nat.le_of_ble_eq_true rfl) dL_law_346 (kRoom (by omega) (by omega))) hB hS hA [0, 11, 12, 16, 15] rfl rfl (fun r_2 H locs hw hB hS => ?_)
    refine lv_aload_n hx hb dL_law_349 rfl (lv_at hl 2 rfl) ?_
    refine lv_aload_n hx hb dL_law_350 rfl (lv_at hl 0 rfl) ?_
    refine lv_iload_n hx hb dL_law_351 rfl (lv_at hl 3 rfl) ?_
    refine lv_iconst (v := (1 : Int32)) hx hb dL_law_352 (by decide) ?_
    refine lv_iadd hx hb dL_law_353 ?_
    refine va_sld hx hb hX hbl hbA hS h1 dL_law_354 ?_
    refine lv_aload_n hx hb dL_law_355 rfl (lv_at hl 0 rfl) ?_
    refine lv_iload_n hx hb dL_law_356 rfl (lv_at hl 3 rfl) ?_
    refine lv_iconst (v := (2 : Int32)) hx hb dL_law_357 (by decide) ?_
    refine lv_iadd hx hb dL_law_358 ?_
    refine va_sld hx hb hX hbl hbA hS h2 dL_law_359 ?_
    refine lv_if_eq (tgt := 367) hx hb dL_law_360 (by decide) (fun _ => ?_) (fun z => absurd c_1 z)
    refine lv_iconst (v := (0 : Int32)) hx hb dL_law_367 (by decide) ?_
    replace hB := hB.turn
    refine kSi1 (kRV hx hb hml hown ht hN hK hB.1 hB.2.1 (c_X11_may l D cI cJ cZ cR (a 40) (a 41) (a 42) (a 43) (a 44) (a 45) (a 46) (a 47) (a 48) (a 49) (a 50) (a 51) (a 52) (a 53) (a 54) (a 55) (a 56) (a 57) (a 58) (a 59) (a 60) (vI 31) (vI 32) (vI 33) (vI 34) (vI 35) (vI 36) (vI 37) (vI 38) (vI 39) (vI 40) (vI 41) (vI 42) (vI 43) (vI 44) (vI 45) (vI 46) (vI 47) (fI 22) (fI 23) (xs (x3 + (1 : Int32)).toNatClampNeg) (0 : Int32) _ hw) [0, 2, 3] rfl rfl (T := TX11) (N := 37) rfl rfl mw_981 mw_982 mw_983 mw_11 mw_984 hdX11_may ⟨Nat.le_of_ble_eq_true rfl, Nat.le_of_ble_eq_true rfl⟩ ⟨rfl, rfl⟩ hl.1 rfl (Nat.le_of_ble_eq_true rfl) dL_law_368 (kRoom (by omega) (by omega))) hB hS hA [0, 2, 3] rfl (fun _ => rfl) (fun r_3 v_4 H locs hw hB hS => ?_)
    replace hB := hB.turn
    refine lv_icmp_eq (tgt := 842) hx hb dL_law_371 (by decide) (fun _ => ?_) (fun z => absurd hw z)
    exact hnext (fun i => if i = 31 then v_4 else vI i) vL fI fL fk k0 k1 H locs _ _ ls ⟨hR.1, hR.2.1, hR.2.2.1, hR.2.2.2.1, hR.2.2.2.2⟩ hB hS (by omega) (by omega) hl
  · refine lv_iconst (v := (1 : Int32)) hx hb dL_law_341 (by decide) ?_
    refine lv_goto (tgt := 346) hx hb dL_law_342 (by decide) ?_
    have hw := hsm (xs (x3 + (1 : Int32)).toNatClampNeg) (1 : Int32) (vI 8) (vI 10) (fI 9) (fI 8) (vI 34) (fI 22) (fI 23) (vI 11) (vI 12) (vI 9) (fI 6) (fI 7) (fI 10) (vI 0) (vI 13) (fI 11) (fI 12) (fI 13) (vI 35) (vI 36) (vI 37) (vI 38) (vI 39) (fI 24) (fI 25) hR.2.1 (Or.inr rfl)
    refine kSi0 (kRV hx hb hml hown ht hN hK hB.1 hB.2.1 (c_X10_may l D cI cJ cZ cR (a 0) (a 1) (a 3) (a 4) (a 11) (a 18) (a 19) (a 24) (a 25) (a 30) (a 36) (a 12) (a 17) (a 13) (a 14) (a 15) (a 16) (vI 0) (vI 8) (vI 9) (vI 10) (vI 11) (vI 12) (fI 9) (fI 8) (xs (x3 + (1 : Int32)).toNatClampNeg) (1 : Int32) _ hw) [0, 11, 12, 16, 15] rfl rfl (T := TX10) (N := 11) rfl rfl mw_462 mw_463 mw_464 mw_1 mw_465 hdX10_may ⟨Nat.le_of_ble_eq_true rfl, Nat.le_of_ble_eq_true rfl⟩ ⟨rfl, rfl⟩ hl.1 rfl (Nat.le_of_ble_eq_true rfl) dL_law_346 (kRoom (by omega) (by omega))) hB hS hA [0, 11, 12, 16, 15] rfl rfl (fun r_5 H locs hw hB hS => ?_)
    refine lv_aload_n hx hb dL_law_349 rfl (lv_at hl 2 rfl) ?_
    refine lv_aload_n hx hb dL_law_350 rfl (lv_at hl 0 rfl) ?_
    refine lv_iload_n hx hb dL_law_351 rfl (lv_at hl 3 rfl) ?_
    refine lv_iconst (v := (1 : Int32)) hx hb dL_law_352 (by decide) ?_
    refine lv_iadd hx hb dL_law_353 ?_
    refine va_sld hx hb hX hbl hbA hS h1 dL_law_354 ?_
    refine lv_aload_n hx hb dL_law_355 rfl (lv_at hl 0 rfl) ?_
    refine lv_iload_n hx hb dL_law_356 rfl (lv_at hl 3 rfl) ?_
    refine lv_iconst (v := (2 : Int32)) hx hb dL_law_357 (by decide) ?_
    refine lv_iadd hx hb dL_law_358 ?_
    refine va_sld hx hb hX hbl hbA hS h2 dL_law_359 ?_
    refine lv_if_eq (tgt := 367) hx hb dL_law_360 (by decide) (fun z => absurd z c_1) (fun _ => ?_)
    refine lv_iconst (v := (1 : Int32)) hx hb dL_law_363 (by decide) ?_
    refine lv_goto (tgt := 368) hx hb dL_law_364 (by decide) ?_
    replace hB := hB.turn
    refine kSi1 (kRV hx hb hml hown ht hN hK hB.1 hB.2.1 (c_X11_may l D cI cJ cZ cR (a 40) (a 41) (a 42) (a 43) (a 44) (a 45) (a 46) (a 47) (a 48) (a 49) (a 50) (a 51) (a 52) (a 53) (a 54) (a 55) (a 56) (a 57) (a 58) (a 59) (a 60) (vI 31) (vI 32) (vI 33) (vI 34) (vI 35) (vI 36) (vI 37) (vI 38) (vI 39) (vI 40) (vI 41) (vI 42) (vI 43) (vI 44) (vI 45) (vI 46) (vI 47) (fI 22) (fI 23) (xs (x3 + (1 : Int32)).toNatClampNeg) (1 : Int32) _ hw) [0, 2, 3] rfl rfl (T := TX11) (N := 37) rfl rfl mw_981 mw_982 mw_983 mw_11 mw_984 hdX11_may ⟨Nat.le_of_ble_eq_true rfl, Nat.le_of_ble_eq_true rfl⟩ ⟨rfl, rfl⟩ hl.1 rfl (Nat.le_of_ble_eq_true rfl) dL_law_368 (kRoom (by omega) (by omega))) hB hS hA [0, 2, 3] rfl (fun _ => rfl) (fun r_6 v_7 H locs hw hB hS => ?_)
    replace hB := hB.turn
    refine lv_icmp_eq (tgt := 842) hx hb dL_law_371 (by decide) (fun _ => ?_) (fun z => absurd hw z)
    exact hnext (fun i => if i = 31 then v_7 else vI i) vL fI fL fk k0 k1 H locs _ _ ls ⟨hR.1, hR.2.1, hR.2.2.1, hR.2.2.2.1, hR.2.2.2.2⟩ hB hS (by omega) (by omega) hl
set_option maxHeartbeats 8000000 in
set_option maxRecDepth 100000 in
theorem law_choices (hsm : S_choices) {p : Program} {e : Env} {s : State} {m : MethodId} {below : List Frame} {meth : Method} {c : Code} {b L : Nat} {xs : Nat → Int32} (C0 : lw_At p s m meth c b L xs) (l : Launch) (D : va_G) (cI cJ cZ cR : ClassId) (hK : va_K D kCl (kTy cI cJ cZ cR) s) (a : Nat → Nat) (vI : Nat → Int32) (vL : Nat → Int64) (fI : Nat → Nat → Int32) (fL : Nat → Nat → Int64) (fk : Nat → Option Nat) (k0 k1 : Option KD) (hR : RR vI fI fk k0 k1) {H : Heap} {locs : List Loc} {nc ns : Nat} (hc : nc + 7 ≤ 600000) (hs : ns + 55 ≤ 7302249) (hB : kX D (fun q : Nat => s.heap.size ≤ q) (lwX cI cJ cZ cR a vI vL fI fL fk) (lwM cI cJ cZ a vI vL fI fL ++ (kWo cI k0 ++ kWo cI k1)) H) (hS : va_S (fun q : Nat => s.heap.size ≤ q) s.heap H locs) {ls : Array Slot} {x3 : Int32} (hl : lv_has ls 4 [(0, .ref b), (1, .ref (a 0)), (2, .ref (a 40)), (3, .int x3)]) (h1 : vp_in (x3 + (1 : Int32)) L) (h2 : vp_in (x3 + (2 : Int32)) L) (h3 : vp_in (x3 + (3 : Int32)) L) (hnext : ∀ (vI : Nat → Int32) (vL : Nat → Int64) (fI : Nat → Nat → Int32) (fL : Nat → Nat → Int64) (fk : Nat → Option Nat) (k0 k1 : Option KD) (H : Heap) (locs : List Loc) (nc2 ns2 : Nat) (ls : Array Slot), RR vI fI fk k0 k1 → kX D (fun q : Nat => s.heap.size ≤ q) (lwX cI cJ cZ cR a vI vL fI fL fk) (lwM cI cJ cZ a vI vL fI fL ++ (kWo cI k0 ++ kWo cI k1)) H → va_S (fun q : Nat => s.heap.size ≤ q) s.heap H locs → nc2 ≤ nc + 7 → ns2 ≤ ns + 55 → lv_has ls 4 [(0, .ref b), (1, .ref (a 0)), (2, .ref (a 40)), (3, .int x3)] → W p l e room_1 s m #[Value.ref b] below meth c H locs nc2 ns2 (lw_Z below #[Value.ref b] s) (F0 m 842 ls [])) : W p l e room_1 s m #[Value.ref b] below meth c H locs nc ns (lw_Z below #[Value.ref b] s) (F0 m 376 ls []) := by
  obtain ⟨hx, hb, hr, hml, hown0, hts, hX, hbl, hlocks, hgv⟩ := C0
  have hown : s.vm.findClass RL = some m.cls := hown0
  have ht : ∀ w ∈ kTb, w.before #[Value.ref b] s = true := fun w h => hts w (kTb_lw w h)
  have hN : kN s := kN.of hts
  have hA : ∀ q : Nat, s.heap.size ≤ q → (fun q : Nat => s.heap.size ≤ q) q := fun _ h => h
  have hbA : ¬ (fun q : Nat => s.heap.size ≤ q) b := Nat.not_le.mpr hbl
  refine lv_aload_n hx hb dL_law_376 rfl (lv_at hl 1 rfl) ?_
  refine lv_aload_n hx hb dL_law_377 rfl (lv_at hl 0 rfl) ?_
  refine lv_iload_n hx hb dL_law_378 rfl (lv_at hl 3 rfl) ?_
  refine lv_iconst (v := (1 : Int32)) hx hb dL_law_379 (by decide) ?_
  refine lv_iadd hx hb dL_law_380 ?_
  refine va_sld hx hb hX hbl hbA hS h1 dL_law_381 ?_
  have hw := hsm (xs (x3 + (1 : Int32)).toNatClampNeg) (vI 8) (vI 10) (fI 8) (fI 9) (vI 19) (vI 20) (vI 21) (vI 22) (vI 34) (fI 22) (fI 23) (vI 11) (vI 12) (vI 9) (fI 6) (fI 7) (fI 10) (vI 0) (vI 13) (fI 11) (fI 12) (fI 13) (vI 35) (vI 36) (vI 37) (vI 38) (vI 39) (fI 24) (fI 25) hR.2.1
  refine kSi4 (kRV hx hb hml hown ht hN hK hB.1 hB.2.1 (c_X10_choices l D cI cJ cZ cR (a 0) (a 1) (a 3) (a 4) (a 11) (a 18) (a 19) (a 24) (a 25) (a 30) (a 36) (a 12) (a 17) (a 13) (a 14) (a 15) (a 16) (vI 0) (vI 8) (vI 9) (vI 10) (vI 11) (vI 12) (fI 8) (fI 9) (vI 19) (vI 20) (vI 21) (vI 22) (xs (x3 + (1 : Int32)).toNatClampNeg) _ hw) [0, 11, 12, 15, 16, 24] rfl rfl (T := TX10) (N := 11) rfl rfl mw_487 mw_488 mw_489 mw_1 mw_490 hdX10_choices ⟨Nat.le_of_ble_eq_true rfl, Nat.le_of_ble_eq_true rfl⟩ ⟨rfl, rfl⟩ hl.1 rfl (Nat.le_of_ble_eq_true rfl) dL_law_382 (kRoom (by omega) (by omega))) hB hS hA [0, 11, 12, 15, 16, 24] rfl (fun _ _ _ _ => rfl) (fun r_1 v_2 v_3 v_4 v_5 H locs hw hB hS => ?_)
  refine lv_aload_n hx hb dL_law_385 rfl (lv_at hl 2 rfl) ?_
  refine lv_aload_n hx hb dL_law_386 rfl (lv_at hl 0 rfl) ?_
  refine lv_iload_n hx hb dL_law_387 rfl (lv_at hl 3 rfl) ?_
  refine lv_iconst (v := (1 : Int32)) hx hb dL_law_388 (by decide) ?_
  refine lv_iadd hx hb dL_law_389 ?_
  refine va_sld hx hb hX hbl hbA hS h1 dL_law_390 ?_
  replace hB := hB.turn
  refine kSi1 (kRV hx hb hml hown ht hN hK hB.1 hB.2.1 (c_X11_choices l D cI cJ cZ cR (a 40) (a 41) (a 42) (a 43) (a 44) (a 45) (a 46) (a 47) (a 48) (a 49) (a 50) (a 51) (a 52) (a 53) (a 54) (a 55) (a 56) (a 57) (a 58) (a 59) (a 60) (vI 31) (vI 32) (vI 33) (vI 34) (vI 35) (vI 36) (vI 37) (vI 38) (vI 39) (vI 40) (vI 41) (vI 42) (vI 43) (vI 44) (vI 45) (vI 46) (vI 47) (fI 22) (fI 23) (xs (x3 + (1 : Int32)).toNatClampNeg) _ hw) [0, 2, 3] rfl rfl (T := TX11) (N := 37) rfl rfl mw_993 mw_994 mw_995 mw_11 mw_996 hdX11_choices ⟨Nat.le_of_ble_eq_true rfl, Nat.le_of_ble_eq_true rfl⟩ ⟨rfl, rfl⟩ hl.1 rfl (Nat.le_of_ble_eq_true rfl) dL_law_391 (kRoom (by omega) (by omega))) hB hS hA [0, 2, 3] rfl (fun _ => rfl) (fun r_6 v_7 H locs hw hB hS => ?_)
  replace hB := hB.turn
  refine lv_icmp_eq (tgt := 842) hx hb dL_law_394 (by decide) (fun _ => ?_) (fun z => absurd hw z)
  exact hnext (fun i => if i = 19 then v_2 else if i = 20 then v_3 else if i = 21 then v_4 else if i = 22 then v_5 else if i = 31 then v_7 else vI i) vL fI fL fk k0 k1 H locs _ _ ls ⟨hR.1, hR.2.1, hR.2.2.1, hR.2.2.2.1, hR.2.2.2.2⟩ hB hS (by omega) (by omega) hl
set_option maxHeartbeats 8000000 in
set_option maxRecDepth 100000 in
theorem law_made (hsm : S_made) {p : Program} {e : Env} {s : State} {m : MethodId} {below : List Frame} {meth : Method} {c : Code} {b L : Nat} {xs : Nat → Int32} (C0 : lw_At p s m meth c b L xs) (l : Launch) (D : va_G) (cI cJ cZ cR : ClassId) (hK : va_K D kCl (kTy cI cJ cZ cR) s) (a : Nat → Nat) (vI : Nat → Int32) (vL : Nat → Int64) (fI : Nat → Nat → Int32) (fL : Nat → Nat → Int64) (fk : Nat → Option Nat) (k0 k1 : Option KD) (hR : RR vI fI fk k0 k1) {H : Heap} {locs : List Loc} {nc ns : Nat} (hc : nc + 7 ≤ 600000) (hs : ns + 55 ≤ 7302249) (hB : kX D (fun q : Nat => s.heap.size ≤ q) (lwX cI cJ cZ cR a vI vL fI fL fk) (lwM cI cJ cZ a vI vL fI fL ++ (kWo cI k0 ++ kWo cI k1)) H) (hS : va_S (fun q : Nat => s.heap.size ≤ q) s.heap H locs) {ls : Array Slot} {x3 : Int32} (hl : lv_has ls 4 [(0, .ref b), (1, .ref (a 0)), (2, .ref (a 40)), (3, .int x3)]) (h1 : vp_in (x3 + (1 : Int32)) L) (h2 : vp_in (x3 + (2 : Int32)) L) (h3 : vp_in (x3 + (3 : Int32)) L) (hnext : ∀ (vI : Nat → Int32) (vL : Nat → Int64) (fI : Nat → Nat → Int32) (fL : Nat → Nat → Int64) (fk : Nat → Option Nat) (k0 k1 : Option KD) (H : Heap) (locs : List Loc) (nc2 ns2 : Nat) (ls : Array Slot), RR vI fI fk k0 k1 → kX D (fun q : Nat => s.heap.size ≤ q) (lwX cI cJ cZ cR a vI vL fI fL fk) (lwM cI cJ cZ a vI vL fI fL ++ (kWo cI k0 ++ kWo cI k1)) H → va_S (fun q : Nat => s.heap.size ≤ q) s.heap H locs → nc2 ≤ nc + 7 → ns2 ≤ ns + 55 → lv_has ls 4 [(0, .ref b), (1, .ref (a 0)), (2, .ref (a 40)), (3, .int x3)] → W p l e room_1 s m #[Value.ref b] below meth c H locs nc2 ns2 (lw_Z below #[Value.ref b] s) (F0 m 842 ls [])) : W p l e room_1 s m #[Value.ref b] below meth c H locs nc ns (lw_Z below #[Value.ref b] s) (F0 m 455 ls []) := by
  obtain ⟨hx, hb, hr, hml, hown0, hts, hX, hbl, hlocks, hgv⟩ := C0
  have hown : s.vm.findClass RL = some m.cls := hown0
  have ht : ∀ w ∈ kTb, w.before #[Value.ref b] s = true := fun w h => hts w (kTb_lw w h)
  have hN : kN s := kN.of hts
  have hA : ∀ q : Nat, s.heap.size ≤ q → (fun q : Nat => s.heap.size ≤ q) q := fun _ h => h
  have hbA : ¬ (fun q : Nat => s.heap.size ≤ q) b := Nat.not_le.mpr hbl
  refine lv_aload_n hx hb dL_law_455 rfl (lv_at hl 1 rfl) ?_
  refine lv_aload_n hx hb dL_law_456 rfl (lv_at hl 0 rfl) ?_
  refine lv_iload_n hx hb dL_law_457 rfl (lv_at hl 3 rfl) ?_
  refine lv_iconst (v := (1 : Int32)) hx hb dL_law_458 (by decide) ?_
  refine lv_iadd hx hb dL_law_459 ?_
  refine va_sld hx hb hX hbl hbA hS h1 dL_law_460 ?_
  refine lv_aload_n hx hb dL_law_461 rfl (lv_at hl 0 rfl) ?_
  refine lv_iload_n hx hb dL_law_462 rfl (lv_at hl 3 rfl) ?_
  refine lv_iconst (v := (2 : Int32)) hx hb dL_law_463 (by decide) ?_
  refine lv_iadd hx hb dL_law_464 ?_
  refine va_sld hx hb hX hbl hbA hS h2 dL_law_465 ?_
  have hw := hsm (xs (x3 + (1 : Int32)).toNatClampNeg) (xs (x3 + (2 : Int32)).toNatClampNeg) (vI 9) (fI 10) (vI 39) (fI 25) (vI 10) (vI 11) (vI 12) (vI 8) (fI 6) (fI 7) (fI 8) (fI 9) (vI 0) (vI 13) (fI 11) (fI 12) (fI 13) (vI 34) (vI 35) (vI 36) (vI 37) (vI 38) (fI 22) (fI 23) (fI 24) hR.2.1
  refine kSi0 (kRV hx hb hml hown ht hN hK hB.1 hB.2.1 (c_X10_made l D cI cJ cZ cR (a 0) (a 1) (a 3) (a 4) (a 11) (a 18) (a 19) (a 24) (a 25) (a 30) (a 36) (a 12) (a 17) (vI 0) (vI 8) (vI 9) (fI 10) (xs (x3 + (1 : Int32)).toNatClampNeg) (xs (x3 + (2 : Int32)).toNatClampNeg) _ hw) [0, 11, 17] rfl rfl (T := TX10) (N := 11) rfl rfl mw_546 mw_547 mw_548 mw_1 mw_549 hdX10_made ⟨Nat.le_of_ble_eq_true rfl, Nat.le_of_ble_eq_true rfl⟩ ⟨rfl, rfl⟩ hl.1 rfl (Nat.le_of_ble_eq_true rfl) dL_law_466 (kRoom (by omega) (by omega))) hB hS hA [0, 11, 17] rfl rfl (fun r_1 H locs hw hB hS => ?_)
  refine lv_aload_n hx hb dL_law_469 rfl (lv_at hl 2 rfl) ?_
  refine lv_aload_n hx hb dL_law_470 rfl (lv_at hl 0 rfl) ?_
  refine lv_iload_n hx hb dL_law_471 rfl (lv_at hl 3 rfl) ?_
  refine lv_iconst (v := (1 : Int32)) hx hb dL_law_472 (by decide) ?_
  refine lv_iadd hx hb dL_law_473 ?_
  refine va_sld hx hb hX hbl hbA hS h1 dL_law_474 ?_
  refine lv_aload_n hx hb dL_law_475 rfl (lv_at hl 0 rfl) ?_
  refine lv_iload_n hx hb dL_law_476 rfl (lv_at hl 3 rfl) ?_
  refine lv_iconst (v := (2 : Int32)) hx hb dL_law_477 (by decide) ?_
  refine lv_iadd hx hb dL_law_478 ?_
  refine va_sld hx hb hX hbl hbA hS h2 dL_law_479 ?_
  replace hB := hB.turn
  refine kSi1 (kRV hx hb hml hown ht hN hK hB.1 hB.2.1 (c_X11_made l D cI cJ cZ cR (a 40) (a 41) (a 42) (a 43) (a 44) (a 45) (a 46) (a 47) (a 48) (a 49) (a 50) (a 51) (a 52) (a 53) (a 54) (a 55) (a 56) (a 57) (a 58) (a 59) (a 60) (vI 31) (vI 32) (vI 33) (vI 34) (vI 35) (vI 36) (vI 37) (vI 38) (vI 39) (vI 40) (vI 41) (vI 42) (vI 43) (vI 44) (vI 45) (vI 46) (vI 47) (fI 25) (xs (x3 + (1 : Int32)).toNatClampNeg) (xs (x3 + (2 : Int32)).toNatClampNeg) _ hw) [0, 5] rfl rfl (T := TX11) (N := 37) rfl rfl mw_1021 mw_1022 mw_1023 mw_11 mw_1024 hdX11_made ⟨Nat.le_of_ble_eq_true rfl, Nat.le_of_ble_eq_true rfl⟩ ⟨rfl, rfl⟩ hl.1 rfl (Nat.le_of_ble_eq_true rfl) dL_law_480 (kRoom (by omega) (by omega))) hB hS hA [0, 5] rfl (fun _ => rfl) (fun r_2 v_3 H locs hw hB hS => ?_)
  replace hB := hB.turn
  refine lv_icmp_eq (tgt := 842) hx hb dL_law_483 (by decide) (fun _ => ?_) (fun z => absurd hw z)
  exact hnext (fun i => if i = 31 then v_3 else vI i) vL fI fL fk k0 k1 H locs _ _ ls ⟨hR.1, hR.2.1, hR.2.2.1, hR.2.2.2.1, hR.2.2.2.2⟩ hB hS (by omega) (by omega) hl
set_option maxHeartbeats 8000000 in
set_option maxRecDepth 100000 in
theorem law_reached (hsm : S_reached) {p : Program} {e : Env} {s : State} {m : MethodId} {below : List Frame} {meth : Method} {c : Code} {b L : Nat} {xs : Nat → Int32} (C0 : lw_At p s m meth c b L xs) (l : Launch) (D : va_G) (cI cJ cZ cR : ClassId) (hK : va_K D kCl (kTy cI cJ cZ cR) s) (a : Nat → Nat) (vI : Nat → Int32) (vL : Nat → Int64) (fI : Nat → Nat → Int32) (fL : Nat → Nat → Int64) (fk : Nat → Option Nat) (k0 k1 : Option KD) (hR : RR vI fI fk k0 k1) {H : Heap} {locs : List Loc} {nc ns : Nat} (hc : nc + 7 ≤ 600000) (hs : ns + 55 ≤ 7302249) (hB : kX D (fun q : Nat => s.heap.size ≤ q) (lwX cI cJ cZ cR a vI vL fI fL fk) (lwM cI cJ cZ a vI vL fI fL ++ (kWo cI k0 ++ kWo cI k1)) H) (hS : va_S (fun q : Nat => s.heap.size ≤ q) s.heap H locs) {ls : Array Slot} {x3 : Int32} (hl : lv_has ls 4 [(0, .ref b), (1, .ref (a 0)), (2, .ref (a 40)), (3, .int x3)]) (h1 : vp_in (x3 + (1 : Int32)) L) (h2 : vp_in (x3 + (2 : Int32)) L) (h3 : vp_in (x3 + (3 : Int32)) L) (hnext : ∀ (vI : Nat → Int32) (vL : Nat → Int64) (fI : Nat → Nat → Int32) (fL : Nat → Nat → Int64) (fk : Nat → Option Nat) (k0 k1 : Option KD) (H : Heap) (locs : List Loc) (nc2 ns2 : Nat) (ls : Array Slot), RR vI fI fk k0 k1 → kX D (fun q : Nat => s.heap.size ≤ q) (lwX cI cJ cZ cR a vI vL fI fL fk) (lwM cI cJ cZ a vI vL fI fL ++ (kWo cI k0 ++ kWo cI k1)) H → va_S (fun q : Nat => s.heap.size ≤ q) s.heap H locs → nc2 ≤ nc + 7 → ns2 ≤ ns + 55 → lv_has ls 4 [(0, .ref b), (1, .ref (a 0)), (2, .ref (a 40)), (3, .int x3)] → W p l e room_1 s m #[Value.ref b] below meth c H locs nc2 ns2 (lw_Z below #[Value.ref b] s) (F0 m 842 ls [])) : W p l e room_1 s m #[Value.ref b] below meth c H locs nc ns (lw_Z below #[Value.ref b] s) (F0 m 488 ls []) := by
  obtain ⟨hx, hb, hr, hml, hown0, hts, hX, hbl, hlocks, hgv⟩ := C0
  have hown : s.vm.findClass RL = some m.cls := hown0
  have ht : ∀ w ∈ kTb, w.before #[Value.ref b] s = true := fun w h => hts w (kTb_lw w h)
  have hN : kN s := kN.of hts
  have hA : ∀ q : Nat, s.heap.size ≤ q → (fun q : Nat => s.heap.size ≤ q) q := fun _ h => h
  have hbA : ¬ (fun q : Nat => s.heap.size ≤ q) b := Nat.not_le.mpr hbl
  refine lv_aload_n hx hb dL_law_488 rfl (lv_at hl 1 rfl) ?_
  have hw := hsm  (vI 0) (vI 8) (vI 13) (vI 14) (fI 11) (fI 12) (fI 13) (vI 10) (fI 8) (fI 9) (vI 15) (vI 16) (vI 17) (vI 18) (vI 34) (fI 35) (fI 22) (fI 36) (fI 34) (fI 24) (fI 23) (fI 38) (vI 11) (vI 12) (vI 9) (fI 6) (fI 7) (fI 10) (vI 35) (vI 36) (vI 37) (vI 38) (vI 39) (fI 25) hR.2.1
  refine kSi10 (kRV hx hb hml hown ht hN hK hB.1 hB.2.1 (c_X10_reached l D cI cJ cZ cR (a 0) (a 1) (a 3) (a 4) (a 11) (a 18) (a 19) (a 24) (a 25) (a 30) (a 36) (a 12) (a 17) (a 20) (a 21) (a 22) (a 23) (a 13) (a 14) (a 15) (a 16) (vI 0) (vI 8) (vI 9) (vI 13) (vI 14) (fI 11) (fI 12) (fI 13) (vI 10) (vI 11) (vI 12) (fI 8) (fI 9) (vI 15) (vI 16) (vI 17) (vI 18) _ hw) [0, 11, 19, 20, 21, 22, 12, 15, 16, 23] rfl rfl (T := TX10) (N := 11) rfl rfl mw_555 mw_556 mw_557 mw_1 mw_558 hdX10_reached ⟨Nat.le_of_ble_eq_true rfl, Nat.le_of_ble_eq_true rfl⟩ ⟨rfl, rfl⟩ hl.1 rfl (Nat.le_of_ble_eq_true rfl) dL_law_489 (kRoom (by omega) (by omega))) hB hS hA [0, 11, 19, 20, 21, 22, 12, 15, 16, 23] rfl (fun _ _ _ _ _ _ _ _ _ _ => rfl) (fun r_1 v_2 v_3 v_4 f_5 f_6 f_7 v_8 v_9 v_10 v_11 H locs hw hB hS => ?_)
  refine lv_aload_n hx hb dL_law_492 rfl (lv_at hl 2 rfl) ?_
  replace hB := hB.turn
  refine kSi6 (kRV hx hb hml hown ht hN hK hB.1 hB.2.1 (c_X11_reached l D cI cJ cZ cR (a 40) (a 41) (a 42) (a 43) (a 44) (a 45) (a 46) (a 47) (a 48) (a 49) (a 50) (a 51) (a 52) (a 53) (a 54) (a 55) (a 56) (a 57) (a 58) (a 59) (a 60) (vI 31) (vI 32) (vI 33) (vI 34) (vI 35) (vI 36) (vI 37) (vI 38) (vI 39) (vI 40) (vI 41) (vI 42) (vI 43) (vI 44) (vI 45) (vI 46) (vI 47) (fI 35) (fI 22) (fI 36) (fI 34) (fI 24) (fI 23) (fI 38) _ hw) [0, 15, 2, 16, 14, 4, 3, 20] rfl rfl (T := TX11) (N := 37) rfl rfl mw_1026 mw_1027 mw_1028 mw_11 mw_1029 hdX11_reached ⟨Nat.le_of_ble_eq_true rfl, Nat.le_of_ble_eq_true rfl⟩ ⟨rfl, rfl⟩ hl.1 rfl (Nat.le_of_ble_eq_true rfl) dL_law_493 (kRoom (by omega) (by omega))) hB hS hA [0, 15, 2, 16, 14, 4, 3, 20] rfl (fun _ _ _ _ _ _ => rfl) (fun r_12 v_13 v_14 f_15 f_16 f_17 f_18 H locs hw hB hS => ?_)
  replace hB := hB.turn
  refine lv_icmp_eq (tgt := 842) hx hb dL_law_496 (by decide) (fun _ => ?_) (fun z => absurd hw.1 z)
  exact hnext (fun i => if i = 0 then v_2 else if i = 13 then v_3 else if i = 14 then v_4 else if i = 15 then v_8 else if i = 16 then v_9 else if i = 17 then v_10 else if i = 18 then v_11 else if i = 31 then v_13 else if i = 44 then v_14 else vI i) vL (fun i => if i = 11 then f_5 else if i = 12 then f_6 else if i = 13 then f_7 else if i = 34 then f_17 else if i = 35 then f_15 else if i = 36 then f_16 else if i = 38 then f_18 else fI i) fL fk k0 k1 H locs _ _ ls ⟨hR.1, hw.2, hR.2.2.1, hR.2.2.2.1, hR.2.2.2.2⟩ hB hS (by omega) (by omega) hl
set_option maxHeartbeats 8000000 in
set_option maxRecDepth 100000 in
theorem law_fewest (hsm : S_fewest) {p : Program} {e : Env} {s : State} {m : MethodId} {below : List Frame} {meth : Method} {c : Code} {b L : Nat} {xs : Nat → Int32} (C0 : lw_At p s m meth c b L xs) (l : Launch) (D : va_G) (cI cJ cZ cR : ClassId) (hK : va_K D kCl (kTy cI cJ cZ cR) s) (a : Nat → Nat) (vI : Nat → Int32) (vL : Nat → Int64) (fI : Nat → Nat → Int32) (fL : Nat → Nat → Int64) (fk : Nat → Option Nat) (k0 k1 : Option KD) (hR : RR vI fI fk k0 k1) {H : Heap} {locs : List Loc} {nc ns : Nat} (hc : nc + 7 ≤ 600000) (hs : ns + 55 ≤ 7302249) (hB : kX D (fun q : Nat => s.heap.size ≤ q) (lwX cI cJ cZ cR a vI vL fI fL fk) (lwM cI cJ cZ a vI vL fI fL ++ (kWo cI k0 ++ kWo cI k1)) H) (hS : va_S (fun q : Nat => s.heap.size ≤ q) s.heap H locs) {ls : Array Slot} {x3 : Int32} (hl : lv_has ls 4 [(0, .ref b), (1, .ref (a 0)), (2, .ref (a 40)), (3, .int x3)]) (h1 : vp_in (x3 + (1 : Int32)) L) (h2 : vp_in (x3 + (2 : Int32)) L) (h3 : vp_in (x3 + (3 : Int32)) L) (hnext : ∀ (vI : Nat → Int32) (vL : Nat → Int64) (fI : Nat → Nat → Int32) (fL : Nat → Nat → Int64) (fk : Nat → Option Nat) (k0 k1 : Option KD) (H : Heap) (locs : List Loc) (nc2 ns2 : Nat) (ls : Array Slot), RR vI fI fk k0 k1 → kX D (fun q : Nat => s.heap.size ≤ q) (lwX cI cJ cZ cR a vI vL fI fL fk) (lwM cI cJ cZ a vI vL fI fL ++ (kWo cI k0 ++ kWo cI k1)) H → va_S (fun q : Nat => s.heap.size ≤ q) s.heap H locs → nc2 ≤ nc + 7 → ns2 ≤ ns + 55 → lv_has ls 4 [(0, .ref b), (1, .ref (a 0)), (2, .ref (a 40)), (3, .int x3)] → W p l e room_1 s m #[Value.ref b] below meth c H locs nc2 ns2 (lw_Z below #[Value.ref b] s) (F0 m 842 ls [])) : W p l e room_1 s m #[Value.ref b] below meth c H locs nc ns (lw_Z below #[Value.ref b] s) (F0 m 501 ls []) := by
  obtain ⟨hx, hb, hr, hml, hown0, hts, hX, hbl, hlocks, hgv⟩ := C0
  have hown : s.vm.findClass RL = some m.cls := hown0
  have ht : ∀ w ∈ kTb, w.before #[Value.ref b] s = true := fun w h => hts w (kTb_lw w h)
  have hN : kN s := kN.of hts
  have hA : ∀ q : Nat, s.heap.size ≤ q → (fun q : Nat => s.heap.size ≤ q) q := fun _ h => h
  have hbA : ¬ (fun q : Nat => s.heap.size ≤ q) b := Nat.not_le.mpr hbl
  refine lv_aload_n hx hb dL_law_501 rfl (lv_at hl 1 rfl) ?_
  refine lv_aload_n hx hb dL_law_502 rfl (lv_at hl 0 rfl) ?_
  refine lv_iload_n hx hb dL_law_503 rfl (lv_at hl 3 rfl) ?_
  refine lv_iconst (v := (1 : Int32)) hx hb dL_law_504 (by decide) ?_
  refine lv_iadd hx hb dL_law_505 ?_
  refine va_sld hx hb hX hbl hbA hS h1 dL_law_506 ?_
  have hw := hsm (xs (x3 + (1 : Int32)).toNatClampNeg) (vI 0) (vI 8) (vI 10) (vI 11) (vI 13) (vI 14) (fI 11) (fI 12) (fI 13) (fI 8) (fI 9) (vI 15) (vI 16) (vI 17) (vI 18) (vI 34) (vI 35) (vI 44) (fI 35) (fI 22) (fI 36) (fI 34) (fI 24) (fI 23) (fI 38) (fI 37) (vI 12) (vI 9) (fI 6) (fI 7) (fI 10) (vI 36) (vI 37) (vI 38) (vI 39) (fI 25) hR.2.1
  refine kSi10 (kRV hx hb hml hown ht hN hK hB.1 hB.2.1 (c_X10_fewest l D cI cJ cZ cR (a 0) (a 1) (a 3) (a 4) (a 11) (a 18) (a 19) (a 24) (a 25) (a 30) (a 36) (a 12) (a 17) (a 13) (a 14) (a 15) (a 16) (a 20) (a 21) (a 22) (a 23) (vI 0) (vI 8) (vI 9) (vI 10) (vI 11) (vI 12) (vI 13) (vI 14) (fI 11) (fI 12) (fI 13) (fI 8) (fI 9) (vI 15) (vI 16) (vI 17) (vI 18) (xs (x3 + (1 : Int32)).toNatClampNeg) _ hw) [0, 11, 12, 19, 20, 21, 22, 15, 16, 23] rfl rfl (T := TX10) (N := 11) rfl rfl mw_592 mw_593 mw_594 mw_1 mw_595 hdX10_fewest ⟨Nat.le_of_ble_eq_true rfl, Nat.le_of_ble_eq_true rfl⟩ ⟨rfl, rfl⟩ hl.1 rfl (Nat.le_of_ble_eq_true rfl) dL_law_507 (kRoom (by omega) (by omega))) hB hS hA [0, 11, 12, 19, 20, 21, 22, 15, 16, 23] rfl (fun _ _ _ _ _ _ _ _ _ _ => rfl) (fun r_1 v_2 v_3 v_4 f_5 f_6 f_7 v_8 v_9 v_10 v_11 H locs hw hB hS => ?_)
  refine lv_aload_n hx hb dL_law_510 rfl (lv_at hl 2 rfl) ?_
  refine lv_aload_n hx hb dL_law_511 rfl (lv_at hl 0 rfl) ?_
  refine lv_iload_n hx hb dL_law_512 rfl (lv_at hl 3 rfl) ?_
  refine lv_iconst (v := (1 : Int32)) hx hb dL_law_513 (by decide) ?_
  refine lv_iadd hx hb dL_law_514 ?_
  refine va_sld hx hb hX hbl hbA hS h1 dL_law_515 ?_
  replace hB := hB.turn
  refine kSi7 (kRV hx hb hml hown ht hN hK hB.1 hB.2.1 (c_X11_fewest l D cI cJ cZ cR (a 40) (a 41) (a 42) (a 43) (a 44) (a 45) (a 46) (a 47) (a 48) (a 49) (a 50) (a 51) (a 52) (a 53) (a 54) (a 55) (a 56) (a 57) (a 58) (a 59) (a 60) (vI 31) (vI 32) (vI 33) (vI 34) (vI 35) (vI 36) (vI 37) (vI 38) (vI 39) (vI 40) (vI 41) (vI 42) (vI 43) (vI 44) (vI 45) (vI 46) (vI 47) (fI 35) (fI 22) (fI 36) (fI 34) (fI 24) (fI 23) (fI 38) (fI 37) (xs (x3 + (1 : Int32)).toNatClampNeg) _ hw) [0, 15, 2, 16, 14, 4, 3, 20, 17] rfl rfl (T := TX11) (N := 37) rfl rfl mw_1056 mw_1057 mw_1058 mw_11 mw_1059 hdX11_fewest ⟨Nat.le_of_ble_eq_true rfl, Nat.le_of_ble_eq_true rfl⟩ ⟨rfl, rfl⟩ hl.1 rfl (Nat.le_of_ble_eq_true rfl) dL_law_516 (kRoom (by omega) (by omega))) hB hS hA [0, 15, 2, 16, 14, 4, 3, 20, 17] rfl (fun _ _ _ _ _ _ _ => rfl) (fun r_12 v_13 v_14 f_15 f_16 f_17 f_18 f_19 H locs hw hB hS => ?_)
  replace hB := hB.turn
  refine lv_icmp_eq (tgt := 842) hx hb dL_law_519 (by decide) (fun _ => ?_) (fun z => absurd hw.1 z)
  exact hnext (fun i => if i = 0 then v_2 else if i = 13 then v_3 else if i = 14 then v_4 else if i = 15 then v_8 else if i = 16 then v_9 else if i = 17 then v_10 else if i = 18 then v_11 else if i = 31 then v_13 else if i = 44 then v_14 else vI i) vL (fun i => if i = 11 then f_5 else if i = 12 then f_6 else if i = 13 then f_7 else if i = 34 then f_17 else if i = 35 then f_15 else if i = 36 then f_16 else if i = 37 then f_19 else if i = 38 then f_18 else fI i) fL fk k0 k1 H locs _ _ ls ⟨hR.1, hw.2, hR.2.2.1, hR.2.2.2.1, hR.2.2.2.2⟩ hB hS (by omega) (by omega) hl
set_option maxHeartbeats 8000000 in
set_option maxRecDepth 100000 in
theorem law_never (hsm : S_never) {p : Program} {e : Env} {s : State} {m : MethodId} {below : List Frame} {meth : Method} {c : Code} {b L : Nat} {xs : Nat → Int32} (C0 : lw_At p s m meth c b L xs) (l : Launch) (D : va_G) (cI cJ cZ cR : ClassId) (hK : va_K D kCl (kTy cI cJ cZ cR) s) (a : Nat → Nat) (vI : Nat → Int32) (vL : Nat → Int64) (fI : Nat → Nat → Int32) (fL : Nat → Nat → Int64) (fk : Nat → Option Nat) (k0 k1 : Option KD) (hR : RR vI fI fk k0 k1) {H : Heap} {locs : List Loc} {nc ns : Nat} (hc : nc + 7 ≤ 600000) (hs : ns + 55 ≤ 7302249) (hB : kX D (fun q : Nat => s.heap.size ≤ q) (lwX cI cJ cZ cR a vI vL fI fL fk) (lwM cI cJ cZ a vI vL fI fL ++ (kWo cI k0 ++ kWo cI k1)) H) (hS : va_S (fun q : Nat => s.heap.size ≤ q) s.heap H locs) {ls : Array Slot} {x3 : Int32} (hl : lv_has ls 4 [(0, .ref b), (1, .ref (a 0)), (2, .ref (a 40)), (3, .int x3)]) (h1 : vp_in (x3 + (1 : Int32)) L) (h2 : vp_in (x3 + (2 : Int32)) L) (h3 : vp_in (x3 + (3 : Int32)) L) (hnext : ∀ (vI : Nat → Int32) (vL : Nat → Int64) (fI : Nat → Nat → Int32) (fL : Nat → Nat → Int64) (fk : Nat → Option Nat) (k0 k1 : Option KD) (H : Heap) (locs : List Loc) (nc2 ns2 : Nat) (ls : Array Slot), RR vI fI fk k0 k1 → kX D (fun q : Nat => s.heap.size ≤ q) (lwX cI cJ cZ cR a vI vL fI fL fk) (lwM cI cJ cZ a vI vL fI fL ++ (kWo cI k0 ++ kWo cI k1)) H → va_S (fun q : Nat => s.heap.size ≤ q) s.heap H locs → nc2 ≤ nc + 7 → ns2 ≤ ns + 55 → lv_has ls 4 [(0, .ref b), (1, .ref (a 0)), (2, .ref (a 40)), (3, .int x3)] → W p l e room_1 s m #[Value.ref b] below meth c H locs nc2 ns2 (lw_Z below #[Value.ref b] s) (F0 m 842 ls [])) : W p l e room_1 s m #[Value.ref b] below meth c H locs nc ns (lw_Z below #[Value.ref b] s) (F0 m 567 ls []) := by
  obtain ⟨hx, hb, hr, hml, hown0, hts, hX, hbl, hlocks, hgv⟩ := C0
  have hown : s.vm.findClass RL = some m.cls := hown0
  have ht : ∀ w ∈ kTb, w.before #[Value.ref b] s = true := fun w h => hts w (kTb_lw w h)
  have hN : kN s := kN.of hts
  have hA : ∀ q : Nat, s.heap.size ≤ q → (fun q : Nat => s.heap.size ≤ q) q := fun _ h => h
  have hbA : ¬ (fun q : Nat => s.heap.size ≤ q) b := Nat.not_le.mpr hbl
  refine lv_aload_n hx hb dL_law_567 rfl (lv_at hl 1 rfl) ?_
  have hw := hsm  (vI 0) (vI 8) (vI 13) (vI 14) (fI 11) (fI 12) (fI 13) (vI 10) (vI 11) (fI 8) (fI 9) (vI 15) (vI 16) (vI 17) (vI 18) (vI 34) (vI 35) (fI 35) (fI 22) (fI 36) (fI 34) (fI 24) (fI 23) (fI 38) (vI 12) (vI 9) (fI 6) (fI 7) (fI 10) (vI 36) (vI 37) (vI 38) (vI 39) (fI 25) hR.2.1
  refine kSi10 (kRV hx hb hml hown ht hN hK hB.1 hB.2.1 (c_X10_never l D cI cJ cZ cR (a 0) (a 1) (a 3) (a 4) (a 11) (a 18) (a 19) (a 24) (a 25) (a 30) (a 36) (a 12) (a 17) (a 20) (a 21) (a 22) (a 23) (a 13) (a 14) (a 15) (a 16) (vI 0) (vI 8) (vI 9) (vI 13) (vI 14) (fI 11) (fI 12) (fI 13) (vI 10) (vI 11) (vI 12) (fI 8) (fI 9) (vI 15) (vI 16) (vI 17) (vI 18) _ hw) [0, 11, 19, 20, 21, 22, 12, 15, 16, 23] rfl rfl (T := TX10) (N := 11) rfl rfl mw_621 mw_622 mw_623 mw_1 mw_624 hdX10_never ⟨Nat.le_of_ble_eq_true rfl, Nat.le_of_ble_eq_true rfl⟩ ⟨rfl, rfl⟩ hl.1 rfl (Nat.le_of_ble_eq_true rfl) dL_law_568 (kRoom (by omega) (by omega))) hB hS hA [0, 11, 19, 20, 21, 22, 12, 15, 16, 23] rfl (fun _ _ _ _ _ _ _ _ _ _ => rfl) (fun r_1 v_2 v_3 v_4 f_5 f_6 f_7 v_8 v_9 v_10 v_11 H locs hw hB hS => ?_)
  refine lv_aload_n hx hb dL_law_571 rfl (lv_at hl 2 rfl) ?_
  replace hB := hB.turn
  refine kSi6 (kRV hx hb hml hown ht hN hK hB.1 hB.2.1 (c_X11_never l D cI cJ cZ cR (a 40) (a 41) (a 42) (a 43) (a 44) (a 45) (a 46) (a 47) (a 48) (a 49) (a 50) (a 51) (a 52) (a 53) (a 54) (a 55) (a 56) (a 57) (a 58) (a 59) (a 60) (vI 31) (vI 32) (vI 33) (vI 34) (vI 35) (vI 36) (vI 37) (vI 38) (vI 39) (vI 40) (vI 41) (vI 42) (vI 43) (vI 44) (vI 45) (vI 46) (vI 47) (fI 35) (fI 22) (fI 36) (fI 34) (fI 24) (fI 23) (fI 38) _ hw) [0, 15, 2, 16, 14, 4, 3, 20] rfl rfl (T := TX11) (N := 37) rfl rfl mw_1089 mw_1090 mw_1091 mw_11 mw_1092 hdX11_never ⟨Nat.le_of_ble_eq_true rfl, Nat.le_of_ble_eq_true rfl⟩ ⟨rfl, rfl⟩ hl.1 rfl (Nat.le_of_ble_eq_true rfl) dL_law_572 (kRoom (by omega) (by omega))) hB hS hA [0, 15, 2, 16, 14, 4, 3, 20] rfl (fun _ _ _ _ _ _ => rfl) (fun r_12 v_13 v_14 f_15 f_16 f_17 f_18 H locs hw hB hS => ?_)
  replace hB := hB.turn
  refine lv_icmp_eq (tgt := 842) hx hb dL_law_575 (by decide) (fun _ => ?_) (fun z => absurd hw.1 z)
  exact hnext (fun i => if i = 0 then v_2 else if i = 13 then v_3 else if i = 14 then v_4 else if i = 15 then v_8 else if i = 16 then v_9 else if i = 17 then v_10 else if i = 18 then v_11 else if i = 31 then v_13 else if i = 44 then v_14 else vI i) vL (fun i => if i = 11 then f_5 else if i = 12 then f_6 else if i = 13 then f_7 else if i = 34 then f_17 else if i = 35 then f_15 else if i = 36 then f_16 else if i = 38 then f_18 else fI i) fL fk k0 k1 H locs _ _ ls ⟨hR.1, hw.2, hR.2.2.1, hR.2.2.2.1, hR.2.2.2.2⟩ hB hS (by omega) (by omega) hl
set_option maxHeartbeats 8000000 in
set_option maxRecDepth 100000 in
theorem law_see (hsm : S_see) {p : Program} {e : Env} {s : State} {m : MethodId} {below : List Frame} {meth : Method} {c : Code} {b L : Nat} {xs : Nat → Int32} (C0 : lw_At p s m meth c b L xs) (l : Launch) (D : va_G) (cI cJ cZ cR : ClassId) (hK : va_K D kCl (kTy cI cJ cZ cR) s) (a : Nat → Nat) (vI : Nat → Int32) (vL : Nat → Int64) (fI : Nat → Nat → Int32) (fL : Nat → Nat → Int64) (fk : Nat → Option Nat) (k0 k1 : Option KD) (hR : RR vI fI fk k0 k1) {H : Heap} {locs : List Loc} {nc ns : Nat} (hc : nc + 7 ≤ 600000) (hs : ns + 55 ≤ 7302249) (hB : kX D (fun q : Nat => s.heap.size ≤ q) (lwX cI cJ cZ cR a vI vL fI fL fk) (lwM cI cJ cZ a vI vL fI fL ++ (kWo cI k0 ++ kWo cI k1)) H) (hS : va_S (fun q : Nat => s.heap.size ≤ q) s.heap H locs) {ls : Array Slot} {x3 : Int32} (hl : lv_has ls 4 [(0, .ref b), (1, .ref (a 0)), (2, .ref (a 40)), (3, .int x3)]) (h1 : vp_in (x3 + (1 : Int32)) L) (h2 : vp_in (x3 + (2 : Int32)) L) (h3 : vp_in (x3 + (3 : Int32)) L) (hnext : ∀ (vI : Nat → Int32) (vL : Nat → Int64) (fI : Nat → Nat → Int32) (fL : Nat → Nat → Int64) (fk : Nat → Option Nat) (k0 k1 : Option KD) (H : Heap) (locs : List Loc) (nc2 ns2 : Nat) (ls : Array Slot), RR vI fI fk k0 k1 → kX D (fun q : Nat => s.heap.size ≤ q) (lwX cI cJ cZ cR a vI vL fI fL fk) (lwM cI cJ cZ a vI vL fI fL ++ (kWo cI k0 ++ kWo cI k1)) H → va_S (fun q : Nat => s.heap.size ≤ q) s.heap H locs → nc2 ≤ nc + 7 → ns2 ≤ ns + 55 → lv_has ls 4 [(0, .ref b), (1, .ref (a 0)), (2, .ref (a 40)), (3, .int x3)] → W p l e room_1 s m #[Value.ref b] below meth c H locs nc2 ns2 (lw_Z below #[Value.ref b] s) (F0 m 842 ls [])) : W p l e room_1 s m #[Value.ref b] below meth c H locs nc ns (lw_Z below #[Value.ref b] s) (F0 m 629 ls []) := by
  obtain ⟨hx, hb, hr, hml, hown0, hts, hX, hbl, hlocks, hgv⟩ := C0
  have hown : s.vm.findClass RL = some m.cls := hown0
  have ht : ∀ w ∈ kTb, w.before #[Value.ref b] s = true := fun w h => hts w (kTb_lw w h)
  have hN : kN s := kN.of hts
  have hA : ∀ q : Nat, s.heap.size ≤ q → (fun q : Nat => s.heap.size ≤ q) q := fun _ h => h
  have hbA : ¬ (fun q : Nat => s.heap.size ≤ q) b := Nat.not_le.mpr hbl
  refine lv_aload_n hx hb dL_law_629 rfl (lv_at hl 1 rfl) ?_
  refine lv_aload_n hx hb dL_law_630 rfl (lv_at hl 0 rfl) ?_
  refine lv_iload_n hx hb dL_law_631 rfl (lv_at hl 3 rfl) ?_
  refine lv_iconst (v := (1 : Int32)) hx hb dL_law_632 (by decide) ?_
  refine lv_iadd hx hb dL_law_633 ?_
  refine va_sld hx hb hX hbl hbA hS h1 dL_law_634 ?_
  refine lv_aload_n hx hb dL_law_635 rfl (lv_at hl 0 rfl) ?_
  refine lv_iload_n hx hb dL_law_636 rfl (lv_at hl 3 rfl) ?_
  refine lv_iconst (v := (2 : Int32)) hx hb dL_law_637 (by decide) ?_
  refine lv_iadd hx hb dL_law_638 ?_
  refine va_sld hx hb hX hbl hbA hS h2 dL_law_639 ?_
  have hw := hsm (xs (x3 + (1 : Int32)).toNatClampNeg) (xs (x3 + (2 : Int32)).toNatClampNeg) (vI 10) (vI 26) (fI 18) (fI 19) (vI 34) (vI 43) (fI 29) (fI 30) (vI 11) (vI 12) (vI 8) (vI 9) (fI 6) (fI 7) (fI 8) (fI 9) (fI 10) (vI 0) (vI 13) (fI 11) (fI 12) (fI 13) (vI 35) (vI 36) (vI 37) (vI 38) (vI 39) (fI 22) (fI 23) (fI 24) (fI 25) hR.2.1 hR.2.2.1
  refine kSi3 (kRV hx hb hml hown ht hN hK hB.1 hB.2.1 (c_X10_see l D cI cJ cZ cR (a 0) (a 1) (a 3) (a 4) (a 11) (a 18) (a 19) (a 24) (a 25) (a 30) (a 36) (a 12) (a 17) (a 13) (a 14) (a 15) (a 16) (a 31) (a 32) (a 33) (a 34) (a 35) (vI 0) (vI 8) (vI 9) (vI 10) (vI 11) (vI 12) (vI 26) (fI 18) (fI 19) (xs (x3 + (1 : Int32)).toNatClampNeg) (xs (x3 + (2 : Int32)).toNatClampNeg) _ hw) [0, 11, 12, 30, 31, 32] rfl rfl (T := TX10) (N := 11) rfl rfl mw_683 mw_684 mw_685 mw_1 mw_686 hdX10_see ⟨Nat.le_of_ble_eq_true rfl, Nat.le_of_ble_eq_true rfl⟩ ⟨rfl, rfl⟩ hl.1 rfl (Nat.le_of_ble_eq_true rfl) dL_law_640 (kRoom (by omega) (by omega))) hB hS hA [0, 11, 12, 30, 31, 32] rfl (fun _ _ _ => rfl) (fun r_1 v_2 f_3 f_4 H locs hw hB hS => ?_)
  refine lv_aload_n hx hb dL_law_643 rfl (lv_at hl 2 rfl) ?_
  refine lv_aload_n hx hb dL_law_644 rfl (lv_at hl 0 rfl) ?_
  refine lv_iload_n hx hb dL_law_645 rfl (lv_at hl 3 rfl) ?_
  refine lv_iconst (v := (1 : Int32)) hx hb dL_law_646 (by decide) ?_
  refine lv_iadd hx hb dL_law_647 ?_
  refine va_sld hx hb hX hbl hbA hS h1 dL_law_648 ?_
  refine lv_aload_n hx hb dL_law_649 rfl (lv_at hl 0 rfl) ?_
  refine lv_iload_n hx hb dL_law_650 rfl (lv_at hl 3 rfl) ?_
  refine lv_iconst (v := (2 : Int32)) hx hb dL_law_651 (by decide) ?_
  refine lv_iadd hx hb dL_law_652 ?_
  refine va_sld hx hb hX hbl hbA hS h2 dL_law_653 ?_
  replace hB := hB.turn
  refine kSi4 (kRV hx hb hml hown ht hN hK hB.1 hB.2.1 (c_X11_see l D cI cJ cZ cR (a 40) (a 41) (a 42) (a 43) (a 44) (a 45) (a 46) (a 47) (a 48) (a 49) (a 50) (a 51) (a 52) (a 53) (a 54) (a 55) (a 56) (a 57) (a 58) (a 59) (a 60) (vI 31) (vI 32) (vI 33) (vI 34) (vI 35) (vI 36) (vI 37) (vI 38) (vI 39) (vI 40) (vI 41) (vI 42) (vI 43) (vI 44) (vI 45) (vI 46) (vI 47) (fI 29) (fI 30) (xs (x3 + (1 : Int32)).toNatClampNeg) (xs (x3 + (2 : Int32)).toNatClampNeg) _ hw) [0, 9, 10] rfl rfl (T := TX11) (N := 37) rfl rfl mw_1128 mw_1129 mw_1130 mw_11 mw_1131 hdX11_see ⟨Nat.le_of_ble_eq_true rfl, Nat.le_of_ble_eq_true rfl⟩ ⟨rfl, rfl⟩ hl.1 rfl (Nat.le_of_ble_eq_true rfl) dL_law_654 (kRoom (by omega) (by omega))) hB hS hA [0, 9, 10] rfl (fun _ _ _ _ => rfl) (fun r_5 v_6 v_7 f_8 f_9 H locs hw hB hS => ?_)
  replace hB := hB.turn
  refine lv_icmp_eq (tgt := 842) hx hb dL_law_657 (by decide) (fun _ => ?_) (fun z => absurd hw.1 z)
  exact hnext (fun i => if i = 26 then v_2 else if i = 31 then v_6 else if i = 43 then v_7 else vI i) vL (fun i => if i = 18 then f_3 else if i = 19 then f_4 else if i = 29 then f_8 else if i = 30 then f_9 else fI i) fL fk k0 k1 H locs _ _ ls ⟨hR.1, hR.2.1, hw.2, hR.2.2.2.1, hR.2.2.2.2⟩ hB hS (by omega) (by omega) hl
set_option maxHeartbeats 8000000 in
set_option maxRecDepth 100000 in
theorem law_unsee (hsm : S_unsee) {p : Program} {e : Env} {s : State} {m : MethodId} {below : List Frame} {meth : Method} {c : Code} {b L : Nat} {xs : Nat → Int32} (C0 : lw_At p s m meth c b L xs) (l : Launch) (D : va_G) (cI cJ cZ cR : ClassId) (hK : va_K D kCl (kTy cI cJ cZ cR) s) (a : Nat → Nat) (vI : Nat → Int32) (vL : Nat → Int64) (fI : Nat → Nat → Int32) (fL : Nat → Nat → Int64) (fk : Nat → Option Nat) (k0 k1 : Option KD) (hR : RR vI fI fk k0 k1) {H : Heap} {locs : List Loc} {nc ns : Nat} (hc : nc + 7 ≤ 600000) (hs : ns + 55 ≤ 7302249) (hB : kX D (fun q : Nat => s.heap.size ≤ q) (lwX cI cJ cZ cR a vI vL fI fL fk) (lwM cI cJ cZ a vI vL fI fL ++ (kWo cI k0 ++ kWo cI k1)) H) (hS : va_S (fun q : Nat => s.heap.size ≤ q) s.heap H locs) {ls : Array Slot} {x3 : Int32} (hl : lv_has ls 4 [(0, .ref b), (1, .ref (a 0)), (2, .ref (a 40)), (3, .int x3)]) (h1 : vp_in (x3 + (1 : Int32)) L) (h2 : vp_in (x3 + (2 : Int32)) L) (h3 : vp_in (x3 + (3 : Int32)) L) (hnext : ∀ (vI : Nat → Int32) (vL : Nat → Int64) (fI : Nat → Nat → Int32) (fL : Nat → Nat → Int64) (fk : Nat → Option Nat) (k0 k1 : Option KD) (H : Heap) (locs : List Loc) (nc2 ns2 : Nat) (ls : Array Slot), RR vI fI fk k0 k1 → kX D (fun q : Nat => s.heap.size ≤ q) (lwX cI cJ cZ cR a vI vL fI fL fk) (lwM cI cJ cZ a vI vL fI fL ++ (kWo cI k0 ++ kWo cI k1)) H → va_S (fun q : Nat => s.heap.size ≤ q) s.heap H locs → nc2 ≤ nc + 7 → ns2 ≤ ns + 55 → lv_has ls 4 [(0, .ref b), (1, .ref (a 0)), (2, .ref (a 40)), (3, .int x3)] → W p l e room_1 s m #[Value.ref b] below meth c H locs nc2 ns2 (lw_Z below #[Value.ref b] s) (F0 m 842 ls [])) : W p l e room_1 s m #[Value.ref b] below meth c H locs nc ns (lw_Z below #[Value.ref b] s) (F0 m 662 ls []) := by
  obtain ⟨hx, hb, hr, hml, hown0, hts, hX, hbl, hlocks, hgv⟩ := C0
  have hown : s.vm.findClass RL = some m.cls := hown0
  have ht : ∀ w ∈ kTb, w.before #[Value.ref b] s = true := fun w h => hts w (kTb_lw w h)
  have hN : kN s := kN.of hts
  have hA : ∀ q : Nat, s.heap.size ≤ q → (fun q : Nat => s.heap.size ≤ q) q := fun _ h => h
  have hbA : ¬ (fun q : Nat => s.heap.size ≤ q) b := Nat.not_le.mpr hbl
  refine lv_aload_n hx hb dL_law_662 rfl (lv_at hl 1 rfl) ?_
  have hw := hsm  (vI 26) (vI 43) (fI 18) (fI 19) (fI 29) (fI 30) hR.2.2.1
  refine kSi1 (kRV hx hb hml hown ht hN hK hB.1 hB.2.1 (c_X10_unsee l D cI cJ cZ cR (a 0) (a 1) (a 3) (a 4) (a 11) (a 18) (a 19) (a 24) (a 25) (a 30) (a 36) (a 31) (a 32) (a 33) (a 34) (a 35) (vI 0) (vI 26) _ hw) [0, 30] rfl rfl (T := TX10) (N := 11) rfl rfl mw_696 mw_697 mw_698 mw_1 mw_699 hdX10_unsee ⟨Nat.le_of_ble_eq_true rfl, Nat.le_of_ble_eq_true rfl⟩ ⟨rfl, rfl⟩ hl.1 rfl (Nat.le_of_ble_eq_true rfl) dL_law_663 (kRoom (by omega) (by omega))) hB hS hA [0, 30] rfl (fun _ => rfl) (fun r_1 v_2 H locs hw hB hS => ?_)
  refine lv_aload_n hx hb dL_law_666 rfl (lv_at hl 2 rfl) ?_
  replace hB := hB.turn
  refine kSi2 (kRV hx hb hml hown ht hN hK hB.1 hB.2.1 (c_X11_unsee l D cI cJ cZ cR (a 40) (a 41) (a 42) (a 43) (a 44) (a 45) (a 46) (a 47) (a 48) (a 49) (a 50) (a 51) (a 52) (a 53) (a 54) (a 55) (a 56) (a 57) (a 58) (a 59) (a 60) (vI 31) (vI 32) (vI 33) (vI 34) (vI 35) (vI 36) (vI 37) (vI 38) (vI 39) (vI 40) (vI 41) (vI 42) (vI 43) (vI 44) (vI 45) (vI 46) (vI 47) _ hw) [0] rfl rfl (T := TX11) (N := 37) rfl rfl mw_1133 mw_1134 mw_1135 mw_11 mw_1136 hdX11_unsee ⟨Nat.le_of_ble_eq_true rfl, Nat.le_of_ble_eq_true rfl⟩ ⟨rfl, rfl⟩ hl.1 rfl (Nat.le_of_ble_eq_true rfl) dL_law_667 (kRoom (by omega) (by omega))) hB hS hA [0] rfl (fun _ _ => rfl) (fun r_3 v_4 v_5 H locs hw hB hS => ?_)
  replace hB := hB.turn
  refine lv_icmp_eq (tgt := 842) hx hb dL_law_670 (by decide) (fun _ => ?_) (fun z => absurd hw.1 z)
  exact hnext (fun i => if i = 26 then v_2 else if i = 31 then v_4 else if i = 43 then v_5 else vI i) vL fI fL fk k0 k1 H locs _ _ ls ⟨hR.1, hR.2.1, hw.2, hR.2.2.2.1, hR.2.2.2.2⟩ hB hS (by omega) (by omega) hl
set_option maxHeartbeats 8000000 in
set_option maxRecDepth 100000 in
theorem law_likely (hsm : S_likely) {p : Program} {e : Env} {s : State} {m : MethodId} {below : List Frame} {meth : Method} {c : Code} {b L : Nat} {xs : Nat → Int32} (C0 : lw_At p s m meth c b L xs) (l : Launch) (D : va_G) (cI cJ cZ cR : ClassId) (hK : va_K D kCl (kTy cI cJ cZ cR) s) (a : Nat → Nat) (vI : Nat → Int32) (vL : Nat → Int64) (fI : Nat → Nat → Int32) (fL : Nat → Nat → Int64) (fk : Nat → Option Nat) (k0 k1 : Option KD) (hR : RR vI fI fk k0 k1) {H : Heap} {locs : List Loc} {nc ns : Nat} (hc : nc + 7 ≤ 600000) (hs : ns + 55 ≤ 7302249) (hB : kX D (fun q : Nat => s.heap.size ≤ q) (lwX cI cJ cZ cR a vI vL fI fL fk) (lwM cI cJ cZ a vI vL fI fL ++ (kWo cI k0 ++ kWo cI k1)) H) (hS : va_S (fun q : Nat => s.heap.size ≤ q) s.heap H locs) {ls : Array Slot} {x3 : Int32} (hl : lv_has ls 4 [(0, .ref b), (1, .ref (a 0)), (2, .ref (a 40)), (3, .int x3)]) (h1 : vp_in (x3 + (1 : Int32)) L) (h2 : vp_in (x3 + (2 : Int32)) L) (h3 : vp_in (x3 + (3 : Int32)) L) (hnext : ∀ (vI : Nat → Int32) (vL : Nat → Int64) (fI : Nat → Nat → Int32) (fL : Nat → Nat → Int64) (fk : Nat → Option Nat) (k0 k1 : Option KD) (H : Heap) (locs : List Loc) (nc2 ns2 : Nat) (ls : Array Slot), RR vI fI fk k0 k1 → kX D (fun q : Nat => s.heap.size ≤ q) (lwX cI cJ cZ cR a vI vL fI fL fk) (lwM cI cJ cZ a vI vL fI fL ++ (kWo cI k0 ++ kWo cI k1)) H → va_S (fun q : Nat => s.heap.size ≤ q) s.heap H locs → nc2 ≤ nc + 7 → ns2 ≤ ns + 55 → lv_has ls 4 [(0, .ref b), (1, .ref (a 0)), (2, .ref (a 40)), (3, .int x3)] → W p l e room_1 s m #[Value.ref b] below meth c H locs nc2 ns2 (lw_Z below #[Value.ref b] s) (F0 m 842 ls [])) : W p l e room_1 s m #[Value.ref b] below meth c H locs nc ns (lw_Z below #[Value.ref b] s) (F0 m 713 ls []) := by
  obtain ⟨hx, hb, hr, hml, hown0, hts, hX, hbl, hlocks, hgv⟩ := C0
  have hown : s.vm.findClass RL = some m.cls := hown0
  have ht : ∀ w ∈ kTb, w.before #[Value.ref b] s = true := fun w h => hts w (kTb_lw w h)
  have hN : kN s := kN.of hts
  have hA : ∀ q : Nat, s.heap.size ≤ q → (fun q : Nat => s.heap.size ≤ q) q := fun _ h => h
  have hbA : ¬ (fun q : Nat => s.heap.size ≤ q) b := Nat.not_le.mpr hbl
  refine lv_aload_n hx hb dL_law_713 rfl (lv_at hl 1 rfl) ?_
  refine lv_aload_n hx hb dL_law_714 rfl (lv_at hl 0 rfl) ?_
  refine lv_iload_n hx hb dL_law_715 rfl (lv_at hl 3 rfl) ?_
  refine lv_iconst (v := (1 : Int32)) hx hb dL_law_716 (by decide) ?_
  refine lv_iadd hx hb dL_law_717 ?_
  refine va_sld hx hb hX hbl hbA hS h1 dL_law_718 ?_
  refine lv_aload_n hx hb dL_law_719 rfl (lv_at hl 0 rfl) ?_
  refine lv_iload_n hx hb dL_law_720 rfl (lv_at hl 3 rfl) ?_
  refine lv_iconst (v := (2 : Int32)) hx hb dL_law_721 (by decide) ?_
  refine lv_iadd hx hb dL_law_722 ?_
  refine va_sld hx hb hX hbl hbA hS h2 dL_law_723 ?_
  have hw := hsm (xs (x3 + (1 : Int32)).toNatClampNeg) (xs (x3 + (2 : Int32)).toNatClampNeg) (vI 11) (vI 12) (fI 20) (fI 22) (fI 31) (vI 10) (vI 8) (vI 9) (fI 6) (fI 7) (fI 8) (fI 9) (fI 10) (vI 0) (vI 13) (fI 11) (fI 12) (fI 13) (vI 34) (vI 35) (vI 36) (vI 37) (vI 38) (vI 39) (fI 23) (fI 24) (fI 25) hR.2.1 hR.2.2.2.1
  refine kSi1 (kRV hx hb hml hown ht hN hK hB.1 hB.2.1 (c_X10_likely l D cI cJ cZ cR (a 0) (a 1) (a 3) (a 4) (a 11) (a 18) (a 19) (a 24) (a 25) (a 30) (a 36) (a 12) (a 17) (a 13) (a 14) (a 15) (a 16) (a 37) (a 38) (a 39) (vI 0) (vI 8) (vI 9) (vI 10) (vI 11) (vI 12) (vL 0) (vL 1) (fI 20) (xs (x3 + (1 : Int32)).toNatClampNeg) (xs (x3 + (2 : Int32)).toNatClampNeg) _ hw) [0, 11, 12, 36, 37] rfl rfl (T := TX10) (N := 11) rfl rfl mw_753 mw_754 mw_755 mw_1 mw_756 hdX10_likely ⟨Nat.le_of_ble_eq_true rfl, Nat.le_of_ble_eq_true rfl⟩ ⟨rfl, rfl⟩ hl.1 rfl (Nat.le_of_ble_eq_true rfl) dL_law_724 (kRoom (by omega) (by omega))) hB hS hA [0, 11, 12, 36, 37] rfl (fun _ => rfl) (fun r_1 f_2 H locs hw hB hS => ?_)
  refine lv_aload_n hx hb dL_law_727 rfl (lv_at hl 2 rfl) ?_
  refine lv_aload_n hx hb dL_law_728 rfl (lv_at hl 0 rfl) ?_
  refine lv_iload_n hx hb dL_law_729 rfl (lv_at hl 3 rfl) ?_
  refine lv_iconst (v := (1 : Int32)) hx hb dL_law_730 (by decide) ?_
  refine lv_iadd hx hb dL_law_731 ?_
  refine va_sld hx hb hX hbl hbA hS h1 dL_law_732 ?_
  refine lv_aload_n hx hb dL_law_733 rfl (lv_at hl 0 rfl) ?_
  refine lv_iload_n hx hb dL_law_734 rfl (lv_at hl 3 rfl) ?_
  refine lv_iconst (v := (2 : Int32)) hx hb dL_law_735 (by decide) ?_
  refine lv_iadd hx hb dL_law_736 ?_
  refine va_sld hx hb hX hbl hbA hS h2 dL_law_737 ?_
  replace hB := hB.turn
  refine kSi2 (kRV hx hb hml hown ht hN hK hB.1 hB.2.1 (c_X11_likely l D cI cJ cZ cR (a 40) (a 41) (a 42) (a 43) (a 44) (a 45) (a 46) (a 47) (a 48) (a 49) (a 50) (a 51) (a 52) (a 53) (a 54) (a 55) (a 56) (a 57) (a 58) (a 59) (a 60) (vI 31) (vI 32) (vI 33) (vI 34) (vI 35) (vI 36) (vI 37) (vI 38) (vI 39) (vI 40) (vI 41) (vI 42) (vI 43) (vI 44) (vI 45) (vI 46) (vI 47) (fI 22) (fI 31) (xs (x3 + (1 : Int32)).toNatClampNeg) (xs (x3 + (2 : Int32)).toNatClampNeg) _ hw) [0, 2, 11] rfl rfl (T := TX11) (N := 37) rfl rfl mw_1154 mw_1155 mw_1156 mw_11 mw_1157 hdX11_likely ⟨Nat.le_of_ble_eq_true rfl, Nat.le_of_ble_eq_true rfl⟩ ⟨rfl, rfl⟩ hl.1 rfl (Nat.le_of_ble_eq_true rfl) dL_law_738 (kRoom (by omega) (by omega))) hB hS hA [0, 2, 11] rfl (fun _ _ => rfl) (fun r_3 v_4 f_5 H locs hw hB hS => ?_)
  replace hB := hB.turn
  refine lv_icmp_eq (tgt := 842) hx hb dL_law_741 (by decide) (fun _ => ?_) (fun z => absurd hw.1 z)
  exact hnext (fun i => if i = 31 then v_4 else vI i) vL (fun i => if i = 20 then f_2 else if i = 31 then f_5 else fI i) fL fk k0 k1 H locs _ _ ls ⟨hR.1, hR.2.1, hR.2.2.1, hw.2, hR.2.2.2.2⟩ hB hS (by omega) (by omega) hl
set_option maxHeartbeats 8000000 in
set_option maxRecDepth 100000 in
theorem law_even (hsm : S_even) {p : Program} {e : Env} {s : State} {m : MethodId} {below : List Frame} {meth : Method} {c : Code} {b L : Nat} {xs : Nat → Int32} (C0 : lw_At p s m meth c b L xs) (l : Launch) (D : va_G) (cI cJ cZ cR : ClassId) (hK : va_K D kCl (kTy cI cJ cZ cR) s) (a : Nat → Nat) (vI : Nat → Int32) (vL : Nat → Int64) (fI : Nat → Nat → Int32) (fL : Nat → Nat → Int64) (fk : Nat → Option Nat) (k0 k1 : Option KD) (hR : RR vI fI fk k0 k1) {H : Heap} {locs : List Loc} {nc ns : Nat} (hc : nc + 7 ≤ 600000) (hs : ns + 55 ≤ 7302249) (hB : kX D (fun q : Nat => s.heap.size ≤ q) (lwX cI cJ cZ cR a vI vL fI fL fk) (lwM cI cJ cZ a vI vL fI fL ++ (kWo cI k0 ++ kWo cI k1)) H) (hS : va_S (fun q : Nat => s.heap.size ≤ q) s.heap H locs) {ls : Array Slot} {x3 : Int32} (hl : lv_has ls 4 [(0, .ref b), (1, .ref (a 0)), (2, .ref (a 40)), (3, .int x3)]) (h1 : vp_in (x3 + (1 : Int32)) L) (h2 : vp_in (x3 + (2 : Int32)) L) (h3 : vp_in (x3 + (3 : Int32)) L) (hnext : ∀ (vI : Nat → Int32) (vL : Nat → Int64) (fI : Nat → Nat → Int32) (fL : Nat → Nat → Int64) (fk : Nat → Option Nat) (k0 k1 : Option KD) (H : Heap) (locs : List Loc) (nc2 ns2 : Nat) (ls : Array Slot), RR vI fI fk k0 k1 → kX D (fun q : Nat => s.heap.size ≤ q) (lwX cI cJ cZ cR a vI vL fI fL fk) (lwM cI cJ cZ a vI vL fI fL ++ (kWo cI k0 ++ kWo cI k1)) H → va_S (fun q : Nat => s.heap.size ≤ q) s.heap H locs → nc2 ≤ nc + 7 → ns2 ≤ ns + 55 → lv_has ls 4 [(0, .ref b), (1, .ref (a 0)), (2, .ref (a 40)), (3, .int x3)] → W p l e room_1 s m #[Value.ref b] below meth c H locs nc2 ns2 (lw_Z below #[Value.ref b] s) (F0 m 842 ls [])) : W p l e room_1 s m #[Value.ref b] below meth c H locs nc ns (lw_Z below #[Value.ref b] s) (F0 m 746 ls []) := by
  obtain ⟨hx, hb, hr, hml, hown0, hts, hX, hbl, hlocks, hgv⟩ := C0
  have hown : s.vm.findClass RL = some m.cls := hown0
  have ht : ∀ w ∈ kTb, w.before #[Value.ref b] s = true := fun w h => hts w (kTb_lw w h)
  have hN : kN s := kN.of hts
  have hA : ∀ q : Nat, s.heap.size ≤ q → (fun q : Nat => s.heap.size ≤ q) q := fun _ h => h
  have hbA : ¬ (fun q : Nat => s.heap.size ≤ q) b := Nat.not_le.mpr hbl
  refine lv_aload_n hx hb dL_law_746 rfl (lv_at hl 1 rfl) ?_
  refine lv_aload_n hx hb dL_law_747 rfl (lv_at hl 0 rfl) ?_
  refine lv_iload_n hx hb dL_law_748 rfl (lv_at hl 3 rfl) ?_
  refine lv_iconst (v := (1 : Int32)) hx hb dL_law_749 (by decide) ?_
  refine lv_iadd hx hb dL_law_750 ?_
  refine va_sld hx hb hX hbl hbA hS h1 dL_law_751 ?_
  refine lv_aload_n hx hb dL_law_752 rfl (lv_at hl 0 rfl) ?_
  refine lv_iload_n hx hb dL_law_753 rfl (lv_at hl 3 rfl) ?_
  refine lv_iconst (v := (2 : Int32)) hx hb dL_law_754 (by decide) ?_
  refine lv_iadd hx hb dL_law_755 ?_
  refine va_sld hx hb hX hbl hbA hS h2 dL_law_756 ?_
  refine lv_if_eq (tgt := 764) hx hb dL_law_757 (by decide) (fun c_1 => ?_) (fun c_1 => ?_)
  · refine lv_iconst (v := (0 : Int32)) hx hb dL_law_764 (by decide) ?_
    have hw := hsm (xs (x3 + (1 : Int32)).toNatClampNeg) (0 : Int32) (vI 8) (vI 10) (fI 8) (fI 9) (vL 0) (vL 1) (fL 2) (fI 20) (fL 3) (vI 34) (fI 22) (fI 23) (fI 31) (vI 11) (vI 12) (vI 9) (fI 6) (fI 7) (fI 10) (vI 0) (vI 13) (fI 11) (fI 12) (fI 13) (vI 35) (vI 36) (vI 37) (vI 38) (vI 39) (fI 24) (fI 25) hR.2.1 hR.2.2.2.1 (Or.inl rfl)
    refine kSl4 (kRV hx hb hml hown ht hN hK hB.1 hB.2.1 (c_X10_even l D cI cJ cZ cR (a 0) (a 1) (a 3) (a 4) (a 11) (a 18) (a 19) (a 24) (a 25) (a 30) (a 36) (a 12) (a 17) (a 13) (a 14) (a 15) (a 16) (a 37) (a 38) (a 39) (vI 0) (vI 8) (vI 9) (vI 10) (vI 11) (vI 12) (fI 8) (fI 9) (vL 0) (vL 1) (fL 2) (fI 20) (fL 3) (xs (x3 + (1 : Int32)).toNatClampNeg) (0 : Int32) _ hw) [0, 11, 12, 15, 16, 36, 38, 37, 39] rfl rfl (T := TX10) (N := 11) rfl rfl mw_763 mw_764 mw_765 mw_1 mw_766 hdX10_even ⟨Nat.le_of_ble_eq_true rfl, Nat.le_of_ble_eq_true rfl⟩ ⟨rfl, rfl⟩ hl.1 rfl (Nat.le_of_ble_eq_true rfl) dL_law_765 (kRoom (by omega) (by omega))) hB hS hA [0, 11, 12, 15, 16, 36, 38, 37, 39] rfl (fun _ _ _ _ => rfl) (fun r_2 v_3 v_4 f_5 f_6 H locs hw hB hS => ?_)
    refine lv_aload_n hx hb dL_law_768 rfl (lv_at hl 2 rfl) ?_
    refine lv_aload_n hx hb dL_law_769 rfl (lv_at hl 0 rfl) ?_
    refine lv_iload_n hx hb dL_law_770 rfl (lv_at hl 3 rfl) ?_
    refine lv_iconst (v := (1 : Int32)) hx hb dL_law_771 (by decide) ?_
    refine lv_iadd hx hb dL_law_772 ?_
    refine va_sld hx hb hX hbl hbA hS h1 dL_law_773 ?_
    refine lv_aload_n hx hb dL_law_774 rfl (lv_at hl 0 rfl) ?_
    refine lv_iload_n hx hb dL_law_775 rfl (lv_at hl 3 rfl) ?_
    refine lv_iconst (v := (2 : Int32)) hx hb dL_law_776 (by decide) ?_
    refine lv_iadd hx hb dL_law_777 ?_
    refine va_sld hx hb hX hbl hbA hS h2 dL_law_778 ?_
    refine lv_if_eq (tgt := 786) hx hb dL_law_779 (by decide) (fun _ => ?_) (fun z => absurd c_1 z)
    refine lv_iconst (v := (0 : Int32)) hx hb dL_law_786 (by decide) ?_
    replace hB := hB.turn
    refine kSl1 (kRV hx hb hml hown ht hN hK hB.1 hB.2.1 (c_X11_even l D cI cJ cZ cR (a 40) (a 41) (a 42) (a 43) (a 44) (a 45) (a 46) (a 47) (a 48) (a 49) (a 50) (a 51) (a 52) (a 53) (a 54) (a 55) (a 56) (a 57) (a 58) (a 59) (a 60) (vI 31) (vI 32) (vI 33) (vI 34) (vI 35) (vI 36) (vI 37) (vI 38) (vI 39) (vI 40) (vI 41) (vI 42) (vI 43) (vI 44) (vI 45) (vI 46) (vI 47) (fI 22) (fI 23) (fI 31) (xs (x3 + (1 : Int32)).toNatClampNeg) (0 : Int32) _ hw) [0, 2, 3, 11] rfl rfl (T := TX11) (N := 37) rfl rfl mw_1159 mw_1160 mw_1161 mw_11 mw_1162 hdX11_even ⟨Nat.le_of_ble_eq_true rfl, Nat.le_of_ble_eq_true rfl⟩ ⟨rfl, rfl⟩ hl.1 rfl (Nat.le_of_ble_eq_true rfl) dL_law_787 (kRoom (by omega) (by omega))) hB hS hA [0, 2, 3, 11] rfl (fun _ => rfl) (fun r_7 v_8 H locs hw hB hS => ?_)
    replace hB := hB.turn
    refine W.lcmp hx hb dL_law_790 ?_
    refine lv_if_eq (tgt := 842) hx hb dL_law_791 (by decide) (fun _ => ?_) (fun z => absurd (kLc hw) z)
    exact hnext (fun i => if i = 31 then v_8 else vI i) (fun i => if i = 0 then v_3 else if i = 1 then v_4 else vL i) fI (fun i => if i = 2 then f_5 else if i = 3 then f_6 else fL i) fk k0 k1 H locs _ _ ls ⟨hR.1, hR.2.1, hR.2.2.1, hR.2.2.2.1, hR.2.2.2.2⟩ hB hS (by omega) (by omega) hl
  · refine lv_iconst (v := (1 : Int32)) hx hb dL_law_760 (by decide) ?_
    refine lv_goto (tgt := 765) hx hb dL_law_761 (by decide) ?_
    have hw := hsm (xs (x3 + (1 : Int32)).toNatClampNeg) (1 : Int32) (vI 8) (vI 10) (fI 8) (fI 9) (vL 0) (vL 1) (fL 2) (fI 20) (fL 3) (vI 34) (fI 22) (fI 23) (fI 31) (vI 11) (vI 12) (vI 9) (fI 6) (fI 7) (fI 10) (vI 0) (vI 13) (fI 11) (fI 12) (fI 13) (vI 35) (vI 36) (vI 37) (vI 38) (vI 39) (fI 24) (fI 25) hR.2.1 hR.2.2.2.1 (Or.inr rfl)
    refine kSl4 (kRV hx hb hml hown ht hN hK hB.1 hB.2.1 (c_X10_even l D cI cJ cZ cR (a 0) (a 1) (a 3) (a 4) (a 11) (a 18) (a 19) (a 24) (a 25) (a 30) (a 36) (a 12) (a 17) (a 13) (a 14) (a 15) (a 16) (a 37) (a 38) (a 39) (vI 0) (vI 8) (vI 9) (vI 10) (vI 11) (vI 12) (fI 8) (fI 9) (vL 0) (vL 1) (fL 2) (fI 20) (fL 3) (xs (x3 + (1 : Int32)).toNatClampNeg) (1 : Int32) _ hw) [0, 11, 12, 15, 16, 36, 38, 37, 39] rfl rfl (T := TX10) (N := 11) rfl rfl mw_763 mw_764 mw_765 mw_1 mw_766 hdX10_even ⟨Nat.le_of_ble_eq_true rfl, Nat.le_of_ble_eq_true rfl⟩ ⟨rfl, rfl⟩ hl.1 rfl (Nat.le_of_ble_eq_true rfl) dL_law_765 (kRoom (by omega) (by omega))) hB hS hA [0, 11, 12, 15, 16, 36, 38, 37, 39] rfl (fun _ _ _ _ => rfl) (fun r_9 v_10 v_11 f_12 f_13 H locs hw hB hS => ?_)
    refine lv_aload_n hx hb dL_law_768 rfl (lv_at hl 2 rfl) ?_
    refine lv_aload_n hx hb dL_law_769 rfl (lv_at hl 0 rfl) ?_
    refine lv_iload_n hx hb dL_law_770 rfl (lv_at hl 3 rfl) ?_
    refine lv_iconst (v := (1 : Int32)) hx hb dL_law_771 (by decide) ?_
    refine lv_iadd hx hb dL_law_772 ?_
    refine va_sld hx hb hX hbl hbA hS h1 dL_law_773 ?_
    refine lv_aload_n hx hb dL_law_774 rfl (lv_at hl 0 rfl) ?_
    refine lv_iload_n hx hb dL_law_775 rfl (lv_at hl 3 rfl) ?_
    refine lv_iconst (v := (2 : Int32)) hx hb dL_law_776 (by decide) ?_
    refine lv_iadd hx hb dL_law_777 ?_
    refine va_sld hx hb hX hbl hbA hS h2 dL_law_778 ?_
    refine lv_if_eq (tgt := 786) hx hb dL_law_779 (by decide) (fun z => absurd z c_1) (fun _ => ?_)
    refine lv_iconst (v := (1 : Int32)) hx hb dL_law_782 (by decide) ?_
    refine lv_goto (tgt := 787) hx hb dL_law_783 (by decide) ?_
    replace hB := hB.turn
    refine kSl1 (kRV hx hb hml hown ht hN hK hB.1 hB.2.1 (c_X11_even l D cI cJ cZ cR (a 40) (a 41) (a 42) (a 43) (a 44) (a 45) (a 46) (a 47) (a 48) (a 49) (a 50) (a 51) (a 52) (a 53) (a 54) (a 55) (a 56) (a 57) (a 58) (a 59) (a 60) (vI 31) (vI 32) (vI 33) (vI 34) (vI 35) (vI 36) (vI 37) (vI 38) (vI 39) (vI 40) (vI 41) (vI 42) (vI 43) (vI 44) (vI 45) (vI 46) (vI 47) (fI 22) (fI 23) (fI 31) (xs (x3 + (1 : Int32)).toNatClampNeg) (1 : Int32) _ hw) [0, 2, 3, 11] rfl rfl (T := TX11) (N := 37) rfl rfl mw_1159 mw_1160 mw_1161 mw_11 mw_1162 hdX11_even ⟨Nat.le_of_ble_eq_true rfl, Nat.le_of_ble_eq_true rfl⟩ ⟨rfl, rfl⟩ hl.1 rfl (Nat.le_of_ble_eq_true rfl) dL_law_787 (kRoom (by omega) (by omega))) hB hS hA [0, 2, 3, 11] rfl (fun _ => rfl) (fun r_14 v_15 H locs hw hB hS => ?_)
    replace hB := hB.turn
    refine W.lcmp hx hb dL_law_790 ?_
    refine lv_if_eq (tgt := 842) hx hb dL_law_791 (by decide) (fun _ => ?_) (fun z => absurd (kLc hw) z)
    exact hnext (fun i => if i = 31 then v_15 else vI i) (fun i => if i = 0 then v_10 else if i = 1 then v_11 else vL i) fI (fun i => if i = 2 then f_12 else if i = 3 then f_13 else fL i) fk k0 k1 H locs _ _ ls ⟨hR.1, hR.2.1, hR.2.2.1, hR.2.2.2.1, hR.2.2.2.2⟩ hB hS (by omega) (by omega) hl
