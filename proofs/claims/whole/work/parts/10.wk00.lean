def wp_J7_fill_53178 (p1 : Int32) (n_p0 : Nat) (f_p0 : Nat → Int32) (P : (Nat → Int32) → Prop) : Prop :=
  (∀ x_1 : Int32, x_1 = (Int32.ofNat n_p0) → (kl2 (fun (x_2 : Int32) (f_3 : Nat → Int32) K5 => ((x_1 ≤ x_2 → P f_3) ∧ (¬ x_1 ≤ x_2 → (vp_in x_2 n_p0 ∧ (∀ f_6 : Nat → Int32, f_6 = (upd f_3 x_2.toNatClampNeg p1) → (∀ x_7 : Int32, x_7 = x_2 + (1 : Int32) → K5 x_7 f_6)))))) (0 : Int32) f_p0))
theorem hdJ7_fill_53178 : yJ7_fill_53178.cls ≠ "java/lang/invoke/MethodHandle" ∧ yJ7_fill_53178.cls ≠ "java/lang/invoke/VarHandle" ∧ (parseMethodDescriptor yJ7_fill_53178.desc).map (fun d => d.parameters.length) = some 2 := by decide +kernel
set_option maxHeartbeats 4000000 in
set_option maxRecDepth 100000 in
theorem c_J7_fill_53178 (l : Launch) (D : va_G) (cI cJ cZ cR : ClassId) (q_p0 : Nat) (n_p0 : Nat) (f_p0 : Nat → Int32) (p1 : Int32) (P : (Nat → Int32) → Prop) (hw : wp_J7_fill_53178 p1 n_p0 f_p0 P) : kM l yJ7_fill_53178 cJ7_fill_53178 4 none { frames := 0, cells := 0, slots := 0, locals := 0 } D (kTy cI cJ cZ cR) [.ref q_p0, .int p1] [aI cI q_p0 n_p0 f_p0] (kQv1 D (kTy cI cJ cZ cR) P (fun y0 => [aI cI q_p0 n_p0 y0])) 0 0 := by
  refine kM.of (by decide) (Nat.le_of_ble_eq_true rfl) ?_
  intro p e s m args below meth c A ls hx hb hr ht hown hlocks hml hN hin hA hK hP hD hS hl
  replace hl : lv_has ls 4 [(0, .ref q_p0), (1, .int p1)] := hl
  obtain ⟨H, hH⟩ : ∃ H : Heap, H = s.heap := ⟨_, rfl⟩
  obtain ⟨locs, hlc⟩ : ∃ L : List Loc, L = [] := ⟨_, rfl⟩
  replace hP : va_P D kCl [aI cI q_p0 n_p0 f_p0] H := by rw [hH]; exact hP
  replace hS : va_S A s.heap H locs := by rw [hH, hlc]; exact hS
  replace hD : va_D A [aI cI q_p0 n_p0 f_p0] := hD
  rw [show W p l e _ s m args below meth c s.heap [] 0 0 _ _ = W p l e _ s m args below meth c H locs 0 0 _ _ from by rw [hH, hlc]]
  unfold wp_J7_fill_53178 at hw
  refine lv_iconst (v := (0 : Int32)) hx hb dJ7_fill_53178_0 (by decide) ?_
  refine lv_istore_n (lv' := [(2, .int (0 : Int32)), (0, .ref q_p0), (1, .int p1)]) hx hb dJ7_fill_53178_1 rfl hl (by decide) rfl (fun ls hl => ?_)
  refine lv_aload_n hx hb dJ7_fill_53178_2 rfl (lv_at hl 1 rfl) ?_
  refine va_alen hx hb hK hP 0 0 rfl rfl rfl dJ7_fill_53178_3 ?_
  refine lv_topi (fun x_1 ex_1 => ?_)
  replace hw := hw x_1 ex_1
  refine lv_istore_n (lv' := [(3, .int x_1), (2, .int (0 : Int32)), (0, .ref q_p0), (1, .int p1)]) hx hb dJ7_fill_53178_4 rfl hl (by decide) rfl (fun ls hl => ?_)
  refine kLoop2 (G := fun (x_2 : Int32) (f_3 : Nat → Int32) => ∀ (H : Heap) (locs : List Loc), va_P D kCl [aI cI q_p0 n_p0 f_3] H → va_D A [aI cI q_p0 n_p0 f_3] → va_S A s.heap H locs → ∀ ls : Array Slot, lv_has ls 4 [(0, .ref q_p0), (1, .int p1), (2, .int x_2), (3, .int x_1)] → W p l e _ s m args below meth c H locs _ _ _ (F0 m 5 ls [])) hw ?_ H locs hP hD hS ls (lv_sub hl [2, 3, 1, 0] rfl)
  intro x_2 f_3 K5 hK5 hw H locs hP hD hS ls hl
  refine lv_iload_n hx hb dJ7_fill_53178_5 rfl (lv_at hl 2 rfl) ?_
  refine lv_iload_n hx hb dJ7_fill_53178_6 rfl (lv_at hl 3 rfl) ?_
  refine lv_icmp_ge (tgt := 20) hx hb dJ7_fill_53178_7 (by decide) (fun c_4 => ?_) (fun c_4 => ?_)
  · replace hw := hw.1 c_4
    exact W.vret hx hb hr (kEv1 hw hP hD hK hS) hS.2.2 dJ7_fill_53178_20
  · replace hw := hw.2 c_4
    refine lv_aload_n hx hb dJ7_fill_53178_10 rfl (lv_at hl 0 rfl) ?_
    refine lv_iload_n hx hb dJ7_fill_53178_11 rfl (lv_at hl 2 rfl) ?_
    refine lv_iload_n hx hb dJ7_fill_53178_12 rfl (lv_at hl 1 rfl) ?_
    have h_5 := hw.1
    replace hw := hw.2
    refine va_iast hx hb hK hP hD hS 0 0 rfl rfl h_5 dJ7_fill_53178_13 (fun H locs hP hD hS => ?_)
    obtain ⟨f_6, ef_6⟩ : ∃ y : Nat → Int32, y = (upd f_3 x_2.toNatClampNeg p1) := ⟨_, rfl⟩
    replace hw := hw f_6 ef_6
    replace hP : va_P D kCl [aI cI q_p0 n_p0 f_6] H := by rw [ef_6]; exact hP
    replace hD : va_D A [aI cI q_p0 n_p0 f_6] := by rw [ef_6]; exact hD
    obtain ⟨x_7, ex_7⟩ : ∃ y : Int32, y = x_2 + (1 : Int32) := ⟨_, rfl⟩
    replace hw := hw x_7 ex_7
    refine lv_iinc (v := x_7) (lv' := [(2, .int x_7), (0, .ref q_p0), (1, .int p1), (3, .int x_1)]) hx hb dJ7_fill_53178_14 hl (k := 2) rfl (by rw [ex_7]; rfl) (by decide) rfl (fun ls hl => ?_)
    refine lv_goto (tgt := 5) hx hb dJ7_fill_53178_17 (by decide) ?_
    exact hK5 _ _ hw H locs hP hD hS ls (lv_sub hl [1, 2, 0, 3] rfl)
def wp_X0_reset (f_this_tenths : Nat → Int32) (P : (Nat → Int32) → Prop) : Prop :=
  (wp_J7_fill_53178 (10 : Int32) 6 f_this_tenths (fun f_1 => P f_1))
theorem hdX0_reset : yX0_reset.cls ≠ "java/lang/invoke/MethodHandle" ∧ yX0_reset.cls ≠ "java/lang/invoke/VarHandle" ∧ (parseMethodDescriptor yX0_reset.desc).map (fun d => d.parameters.length) = some 0 := by decide +kernel
set_option maxHeartbeats 4000000 in
set_option maxRecDepth 100000 in
theorem c_X0_reset (l : Launch) (D : va_G) (cI cJ cZ cR : ClassId) (q_this q_this_tenths q_this_leaving q_this_entering : Nat) (v_this_above : Int64) (v_this_below : Int64) (f_this_tenths : Nat → Int32) (P : (Nat → Int32) → Prop) (hw : wp_X0_reset f_this_tenths P) : kM l yX0_reset cX0_reset 1 none { frames := 1, cells := 0, slots := 0, locals := 23 } D (kTy cI cJ cZ cR) [.ref q_this] [ob q_this 0 [.ref q_this_tenths, .ref q_this_leaving, .ref q_this_entering, .long v_this_above, .long v_this_below], aI cI q_this_tenths 6 f_this_tenths] (kQv1 D (kTy cI cJ cZ cR) P (fun y0 => [ob q_this 0 [.ref q_this_tenths, .ref q_this_leaving, .ref q_this_entering, .long v_this_above, .long v_this_below], aI cI q_this_tenths 6 y0])) 0 0 := by
  refine kM.of (by decide) (Nat.le_of_ble_eq_true rfl) ?_
  intro p e s m args below meth c A ls hx hb hr ht hown hlocks hml hN hin hA hK hP hD hS hl
  replace hl : lv_has ls 1 [(0, .ref q_this)] := hl
  obtain ⟨H, hH⟩ : ∃ H : Heap, H = s.heap := ⟨_, rfl⟩
  obtain ⟨locs, hlc⟩ : ∃ L : List Loc, L = [] := ⟨_, rfl⟩
  replace hP : va_P D kCl [ob q_this 0 [.ref q_this_tenths, .ref q_this_leaving, .ref q_this_entering, .long v_this_above, .long v_this_below], aI cI q_this_tenths 6 f_this_tenths] H := by rw [hH]; exact hP
  replace hS : va_S A s.heap H locs := by rw [hH, hlc]; exact hS
  replace hD : va_D A [ob q_this 0 [.ref q_this_tenths, .ref q_this_leaving, .ref q_this_entering, .long v_this_above, .long v_this_below], aI cI q_this_tenths 6 f_this_tenths] := hD
  rw [show W p l e _ s m args below meth c s.heap [] 0 0 _ _ = W p l e _ s m args below meth c H locs 0 0 _ _ from by rw [hH, hlc]]
  unfold wp_X0_reset at hw
  refine lv_aload_n hx hb dX0_reset_0 rfl (lv_at hl 0 rfl) ?_
  refine va_get (D := D) (ci := 0) (v := .ref q_this_tenths) (C := RX0) (T := TX0) (N := 5) hx hb ht inX0 hown hK hP 0 rfl rfl 0 (by decide) (ht _ mw_195) (fun _ h9 => h9) rfl dX0_reset_1 ?_
  refine lv_bipush (v := (10 : Int32)) hx hb dX0_reset_4 (by decide) ?_
  refine kCv1 (kRS hx hb hml hown ht hN hK hP hD (c_J7_fill_53178 l D cI cJ cZ cR q_this_tenths 6 f_this_tenths (10 : Int32) _ hw) [1] rfl rfl mw_192 mw_193 mw_10 mw_194 hdJ7_fill_53178 ⟨Nat.le_of_ble_eq_true rfl, Nat.le_of_ble_eq_true rfl⟩ ⟨rfl, rfl⟩ hl.1 rfl (Nat.le_of_ble_eq_true rfl) dX0_reset_6 ⟨Nat.zero_le _, Nat.zero_le _⟩) hP hD hS hA [1] [0] [0, 1] rfl rfl rfl rfl (fun f_1 => [ob q_this 0 [.ref q_this_tenths, .ref q_this_leaving, .ref q_this_entering, .long v_this_above, .long v_this_below], aI cI q_this_tenths 6 f_1]) (fun _ => rfl) rfl (fun f_1 H locs hw hP hD hS => ?_)
  exact W.vret hx hb hr (kEv1 hw hP hD hK hS) hS.2.2 dX0_reset_9
def wp_X10_at (p1 : Int32) (n_p0 : Nat) (f_p0 : Nat → Int32) (P : Int32 → Prop) : Prop :=
  ((p1 < 0 → P (0 : Int32)) ∧ (¬ p1 < 0 → (((Int32.ofNat n_p0) ≤ p1 → P (0 : Int32)) ∧ (¬ (Int32.ofNat n_p0) ≤ p1 → (vp_in p1 n_p0 ∧ P (f_p0 p1.toNatClampNeg))))))
theorem hdX10_at : yX10_at.cls ≠ "java/lang/invoke/MethodHandle" ∧ yX10_at.cls ≠ "java/lang/invoke/VarHandle" ∧ (parseMethodDescriptor yX10_at.desc).map (fun d => d.parameters.length) = some 2 := by decide +kernel
set_option maxHeartbeats 4000000 in
set_option maxRecDepth 100000 in
theorem c_X10_at (l : Launch) (D : va_G) (cI cJ cZ cR : ClassId) (q_p0 : Nat) (n_p0 : Nat) (f_p0 : Nat → Int32) (p1 : Int32) (P : Int32 → Prop) (hw : wp_X10_at p1 n_p0 f_p0 P) : kM l yX10_at cX10_at 2 (some .int) { frames := 0, cells := 0, slots := 0, locals := 0 } D (kTy cI cJ cZ cR) [.ref q_p0, .int p1] [aI cI q_p0 n_p0 f_p0] (kQi0 D (kTy cI cJ cZ cR) P [aI cI q_p0 n_p0 f_p0]) 0 0 := by
  refine kM.of (by decide) (Nat.le_of_ble_eq_true rfl) ?_
  intro p e s m args below meth c A ls hx hb hr ht hown hlocks hml hN hin hA hK hP hD hS hl
  replace hl : lv_has ls 2 [(0, .ref q_p0), (1, .int p1)] := hl
  obtain ⟨H, hH⟩ : ∃ H : Heap, H = s.heap := ⟨_, rfl⟩
  obtain ⟨locs, hlc⟩ : ∃ L : List Loc, L = [] := ⟨_, rfl⟩
  replace hP : va_P D kCl [aI cI q_p0 n_p0 f_p0] H := by rw [hH]; exact hP
  replace hS : va_S A s.heap H locs := by rw [hH, hlc]; exact hS
  replace hD : va_D A [aI cI q_p0 n_p0 f_p0] := hD
  rw [show W p l e _ s m args below meth c s.heap [] 0 0 _ _ = W p l e _ s m args below meth c H locs 0 0 _ _ from by rw [hH, hlc]]
  unfold wp_X10_at at hw
  refine lv_iload_n hx hb dX10_at_0 rfl (lv_at hl 1 rfl) ?_
  refine lv_if_lt (tgt := 16) hx hb dX10_at_1 (by decide) (fun c_1 => ?_) (fun c_1 => ?_)
  · replace hw := hw.1 c_1
    refine lv_iconst (v := (0 : Int32)) hx hb dX10_at_16 (by decide) ?_
    exact W.iret (v := (0 : Int32)) hx hb hr (kEi0 hw hP hD hK hS) hS.2.2 dX10_at_17
  · replace hw := hw.2 c_1
    refine lv_iload_n hx hb dX10_at_4 rfl (lv_at hl 1 rfl) ?_
    refine lv_aload_n hx hb dX10_at_5 rfl (lv_at hl 0 rfl) ?_
    refine va_alen hx hb hK hP 0 0 rfl rfl rfl dX10_at_6 ?_
    refine lv_icmp_ge (tgt := 16) hx hb dX10_at_7 (by decide) (fun c_2 => ?_) (fun c_2 => ?_)
    · replace hw := hw.1 c_2
      refine lv_iconst (v := (0 : Int32)) hx hb dX10_at_16 (by decide) ?_
      exact W.iret (v := (0 : Int32)) hx hb hr (kEi0 hw hP hD hK hS) hS.2.2 dX10_at_17
    · replace hw := hw.2 c_2
      refine lv_aload_n hx hb dX10_at_10 rfl (lv_at hl 0 rfl) ?_
      refine lv_iload_n hx hb dX10_at_11 rfl (lv_at hl 1 rfl) ?_
      have h_3 := hw.1
      replace hw := hw.2
      refine va_iald hx hb hK hP 0 0 rfl rfl h_3 dX10_at_12 ?_
      refine lv_goto (tgt := 17) hx hb dX10_at_13 (by decide) ?_
      exact W.iret (v := (f_p0 p1.toNatClampNeg)) hx hb hr (kEi0 hw hP hD hK hS) hS.2.2 dX10_at_17
def wp_X10_put (p1 : Int32) (p2 : Int32) (n_p0 : Nat) (f_p0 : Nat → Int32) (P : (Nat → Int32) → Prop) : Prop :=
  ((p1 < 0 → P f_p0) ∧ (¬ p1 < 0 → (((Int32.ofNat n_p0) ≤ p1 → P f_p0) ∧ (¬ (Int32.ofNat n_p0) ≤ p1 → (vp_in p1 n_p0 ∧ (∀ f_4 : Nat → Int32, f_4 = (upd f_p0 p1.toNatClampNeg p2) → P f_4))))))
theorem hdX10_put : yX10_put.cls ≠ "java/lang/invoke/MethodHandle" ∧ yX10_put.cls ≠ "java/lang/invoke/VarHandle" ∧ (parseMethodDescriptor yX10_put.desc).map (fun d => d.parameters.length) = some 3 := by decide +kernel
set_option maxHeartbeats 4000000 in
set_option maxRecDepth 100000 in
theorem c_X10_put (l : Launch) (D : va_G) (cI cJ cZ cR : ClassId) (q_p0 : Nat) (n_p0 : Nat) (f_p0 : Nat → Int32) (p1 : Int32) (p2 : Int32) (P : (Nat → Int32) → Prop) (hw : wp_X10_put p1 p2 n_p0 f_p0 P) : kM l yX10_put cX10_put 3 none { frames := 0, cells := 0, slots := 0, locals := 0 } D (kTy cI cJ cZ cR) [.ref q_p0, .int p1, .int p2] [aI cI q_p0 n_p0 f_p0] (kQv1 D (kTy cI cJ cZ cR) P (fun y0 => [aI cI q_p0 n_p0 y0])) 0 0 := by
  refine kM.of (by decide) (Nat.le_of_ble_eq_true rfl) ?_
  intro p e s m args below meth c A ls hx hb hr ht hown hlocks hml hN hin hA hK hP hD hS hl
  replace hl : lv_has ls 3 [(0, .ref q_p0), (1, .int p1), (2, .int p2)] := hl
  obtain ⟨H, hH⟩ : ∃ H : Heap, H = s.heap := ⟨_, rfl⟩
  obtain ⟨locs, hlc⟩ : ∃ L : List Loc, L = [] := ⟨_, rfl⟩
  replace hP : va_P D kCl [aI cI q_p0 n_p0 f_p0] H := by rw [hH]; exact hP
  replace hS : va_S A s.heap H locs := by rw [hH, hlc]; exact hS
  replace hD : va_D A [aI cI q_p0 n_p0 f_p0] := hD
  rw [show W p l e _ s m args below meth c s.heap [] 0 0 _ _ = W p l e _ s m args below meth c H locs 0 0 _ _ from by rw [hH, hlc]]
  unfold wp_X10_put at hw
  refine lv_iload_n hx hb dX10_put_0 rfl (lv_at hl 1 rfl) ?_
  refine lv_if_lt (tgt := 14) hx hb dX10_put_1 (by decide) (fun c_1 => ?_) (fun c_1 => ?_)
  · replace hw := hw.1 c_1
    exact W.vret hx hb hr (kEv1 hw hP hD hK hS) hS.2.2 dX10_put_14
  · replace hw := hw.2 c_1
    refine lv_iload_n hx hb dX10_put_4 rfl (lv_at hl 1 rfl) ?_
    refine lv_aload_n hx hb dX10_put_5 rfl (lv_at hl 0 rfl) ?_
    refine va_alen hx hb hK hP 0 0 rfl rfl rfl dX10_put_6 ?_
    refine lv_icmp_ge (tgt := 14) hx hb dX10_put_7 (by decide) (fun c_2 => ?_) (fun c_2 => ?_)
    · replace hw := hw.1 c_2
      exact W.vret hx hb hr (kEv1 hw hP hD hK hS) hS.2.2 dX10_put_14
    · replace hw := hw.2 c_2
      refine lv_aload_n hx hb dX10_put_10 rfl (lv_at hl 0 rfl) ?_
      refine lv_iload_n hx hb dX10_put_11 rfl (lv_at hl 1 rfl) ?_
      refine lv_iload_n hx hb dX10_put_12 rfl (lv_at hl 2 rfl) ?_
      have h_3 := hw.1
      replace hw := hw.2
      refine va_iast hx hb hK hP hD hS 0 0 rfl rfl h_3 dX10_put_13 (fun H locs hP hD hS => ?_)
      obtain ⟨f_4, ef_4⟩ : ∃ y : Nat → Int32, y = (upd f_p0 p1.toNatClampNeg p2) := ⟨_, rfl⟩
      replace hw := hw f_4 ef_4
      replace hP : va_P D kCl [aI cI q_p0 n_p0 f_4] H := by rw [ef_4]; exact hP
      replace hD : va_D A [aI cI q_p0 n_p0 f_4] := by rw [ef_4]; exact hD
      exact W.vret hx hb hr (kEv1 hw hP hD hK hS) hS.2.2 dX10_put_14
def wp_X0_change (p0 : Int32) (p1 : Int32) (f_this_tenths : Nat → Int32) (P : Int32 → (Nat → Int32) → Prop) : Prop :=
  (wp_X10_at p0 6 f_this_tenths (fun r_1 => (wp_X10_put p0 p1 6 f_this_tenths (fun f_2 => P r_1 f_2))))
theorem hdX0_change : yX0_change.cls ≠ "java/lang/invoke/MethodHandle" ∧ yX0_change.cls ≠ "java/lang/invoke/VarHandle" ∧ (parseMethodDescriptor yX0_change.desc).map (fun d => d.parameters.length) = some 2 := by decide +kernel
set_option maxHeartbeats 4000000 in
set_option maxRecDepth 100000 in
theorem c_X0_change (l : Launch) (D : va_G) (cI cJ cZ cR : ClassId) (q_this q_this_tenths q_this_leaving q_this_entering : Nat) (v_this_above : Int64) (v_this_below : Int64) (f_this_tenths : Nat → Int32) (p0 : Int32) (p1 : Int32) (P : Int32 → (Nat → Int32) → Prop) (hw : wp_X0_change p0 p1 f_this_tenths P) : kM l yX0_change cX0_change 4 (some .int) { frames := 1, cells := 0, slots := 0, locals := 22 } D (kTy cI cJ cZ cR) [.ref q_this, .int p0, .int p1] [ob q_this 0 [.ref q_this_tenths, .ref q_this_leaving, .ref q_this_entering, .long v_this_above, .long v_this_below], aI cI q_this_tenths 6 f_this_tenths] (kQi1 D (kTy cI cJ cZ cR) P (fun y0 => [ob q_this 0 [.ref q_this_tenths, .ref q_this_leaving, .ref q_this_entering, .long v_this_above, .long v_this_below], aI cI q_this_tenths 6 y0])) 0 0 := by
  refine kM.of (by decide) (Nat.le_of_ble_eq_true rfl) ?_
  intro p e s m args below meth c A ls hx hb hr ht hown hlocks hml hN hin hA hK hP hD hS hl
  replace hl : lv_has ls 4 [(0, .ref q_this), (1, .int p0), (2, .int p1)] := hl
  obtain ⟨H, hH⟩ : ∃ H : Heap, H = s.heap := ⟨_, rfl⟩
  obtain ⟨locs, hlc⟩ : ∃ L : List Loc, L = [] := ⟨_, rfl⟩
  replace hP : va_P D kCl [ob q_this 0 [.ref q_this_tenths, .ref q_this_leaving, .ref q_this_entering, .long v_this_above, .long v_this_below], aI cI q_this_tenths 6 f_this_tenths] H := by rw [hH]; exact hP
  replace hS : va_S A s.heap H locs := by rw [hH, hlc]; exact hS
  replace hD : va_D A [ob q_this 0 [.ref q_this_tenths, .ref q_this_leaving, .ref q_this_entering, .long v_this_above, .long v_this_below], aI cI q_this_tenths 6 f_this_tenths] := hD
  rw [show W p l e _ s m args below meth c s.heap [] 0 0 _ _ = W p l e _ s m args below meth c H locs 0 0 _ _ from by rw [hH, hlc]]
  unfold wp_X0_change at hw
  refine lv_aload_n hx hb dX0_change_0 rfl (lv_at hl 0 rfl) ?_
  refine va_get (D := D) (ci := 0) (v := .ref q_this_tenths) (C := RX0) (T := TX0) (N := 5) hx hb ht inX0 hown hK hP 0 rfl rfl 0 (by decide) (ht _ mw_195) (fun _ h9 => h9) rfl dX0_change_1 ?_
  refine lv_iload_n hx hb dX0_change_4 rfl (lv_at hl 1 rfl) ?_
  refine kCi0 (kRSN hx hb hml hown ht hN hK hP hD (c_X10_at l D cI cJ cZ cR q_this_tenths 6 f_this_tenths p0 _ hw) [1] rfl rfl mn_761 mw_286 mw_1 mw_287 hdX10_at ⟨Nat.le_of_ble_eq_true rfl, Nat.le_of_ble_eq_true rfl⟩ ⟨rfl, rfl⟩ hl.1 rfl (Nat.le_of_ble_eq_true rfl) dX0_change_5 ⟨Nat.zero_le _, Nat.zero_le _⟩) hP hD hS hA [1] [0] [0, 1] rfl rfl rfl rfl [ob q_this 0 [.ref q_this_tenths, .ref q_this_leaving, .ref q_this_entering, .long v_this_above, .long v_this_below], aI cI q_this_tenths 6 f_this_tenths] rfl rfl (fun r_1 H locs hw hP hD hS => ?_)
  refine lv_istore_n (lv' := [(3, .int r_1), (0, .ref q_this), (1, .int p0), (2, .int p1)]) hx hb dX0_change_8 rfl hl (by decide) rfl (fun ls hl => ?_)
  refine lv_aload_n hx hb dX0_change_9 rfl (lv_at hl 1 rfl) ?_
  refine va_get (D := D) (ci := 0) (v := .ref q_this_tenths) (C := RX0) (T := TX0) (N := 5) hx hb ht inX0 hown hK hP 0 rfl rfl 0 (by decide) (ht _ mw_195) (fun _ h9 => h9) rfl dX0_change_10 ?_
  refine lv_iload_n hx hb dX0_change_13 rfl (lv_at hl 2 rfl) ?_
  refine lv_iload_n hx hb dX0_change_14 rfl (lv_at hl 3 rfl) ?_
  refine kCv1 (kRSN hx hb hml hown ht hN hK hP hD (c_X10_put l D cI cJ cZ cR q_this_tenths 6 f_this_tenths p0 p1 _ hw) [1] rfl rfl mn_762 mw_259 mw_1 mw_260 hdX10_put ⟨Nat.le_of_ble_eq_true rfl, Nat.le_of_ble_eq_true rfl⟩ ⟨rfl, rfl⟩ hl.1 rfl (Nat.le_of_ble_eq_true rfl) dX0_change_15 ⟨Nat.zero_le _, Nat.zero_le _⟩) hP hD hS hA [1] [0] [0, 1] rfl rfl rfl rfl (fun f_2 => [ob q_this 0 [.ref q_this_tenths, .ref q_this_leaving, .ref q_this_entering, .long v_this_above, .long v_this_below], aI cI q_this_tenths 6 f_2]) (fun _ => rfl) rfl (fun f_2 H locs hw hP hD hS => ?_)
  refine lv_iload_n hx hb dX0_change_18 rfl (lv_at hl 0 rfl) ?_
  exact W.iret (v := r_1) hx hb hr (kEi1 hw hP hD hK hS) hS.2.2 dX0_change_19
def wp_X0_above (v_this_above : Int64) (P : Int64 → Prop) : Prop :=
  P v_this_above
theorem hdX0_above : yX0_above.cls ≠ "java/lang/invoke/MethodHandle" ∧ yX0_above.cls ≠ "java/lang/invoke/VarHandle" ∧ (parseMethodDescriptor yX0_above.desc).map (fun d => d.parameters.length) = some 0 := by decide +kernel
set_option maxHeartbeats 4000000 in
set_option maxRecDepth 100000 in
theorem c_X0_above (l : Launch) (D : va_G) (cI cJ cZ cR : ClassId) (q_this q_this_tenths q_this_leaving q_this_entering : Nat) (v_this_above : Int64) (v_this_below : Int64) (P : Int64 → Prop) (hw : wp_X0_above v_this_above P) : kM l yX0_above cX0_above 1 (some .long) { frames := 0, cells := 0, slots := 0, locals := 0 } D (kTy cI cJ cZ cR) [.ref q_this] [ob q_this 0 [.ref q_this_tenths, .ref q_this_leaving, .ref q_this_entering, .long v_this_above, .long v_this_below]] (kQl0 D (kTy cI cJ cZ cR) P [ob q_this 0 [.ref q_this_tenths, .ref q_this_leaving, .ref q_this_entering, .long v_this_above, .long v_this_below]]) 0 0 := by
  refine kM.of (by decide) (Nat.le_of_ble_eq_true rfl) ?_
  intro p e s m args below meth c A ls hx hb hr ht hown hlocks hml hN hin hA hK hP hD hS hl
  replace hl : lv_has ls 1 [(0, .ref q_this)] := hl
  obtain ⟨H, hH⟩ : ∃ H : Heap, H = s.heap := ⟨_, rfl⟩
  obtain ⟨locs, hlc⟩ : ∃ L : List Loc, L = [] := ⟨_, rfl⟩
  replace hP : va_P D kCl [ob q_this 0 [.ref q_this_tenths, .ref q_this_leaving, .ref q_this_entering, .long v_this_above, .long v_this_below]] H := by rw [hH]; exact hP
  replace hS : va_S A s.heap H locs := by rw [hH, hlc]; exact hS
  replace hD : va_D A [ob q_this 0 [.ref q_this_tenths, .ref q_this_leaving, .ref q_this_entering, .long v_this_above, .long v_this_below]] := hD
  rw [show W p l e _ s m args below meth c s.heap [] 0 0 _ _ = W p l e _ s m args below meth c H locs 0 0 _ _ from by rw [hH, hlc]]
  unfold wp_X0_above at hw
  refine lv_aload_n hx hb dX0_above_0 rfl (lv_at hl 0 rfl) ?_
  refine va_get (D := D) (ci := 0) (v := .long v_this_above) (C := RX0) (T := TX0) (N := 5) hx hb ht inX0 hown hK hP 0 rfl rfl 3 (by decide) (ht _ mw_198) (fun _ h9 => h9) rfl dX0_above_1 ?_
  exact W.lret (v := v_this_above) hx hb hr (kEl0 hw hP hD hK hS) hS.2.2 dX0_above_4
def wp_X0_below (v_this_below : Int64) (P : Int64 → Prop) : Prop :=
  P v_this_below
theorem hdX0_below : yX0_below.cls ≠ "java/lang/invoke/MethodHandle" ∧ yX0_below.cls ≠ "java/lang/invoke/VarHandle" ∧ (parseMethodDescriptor yX0_below.desc).map (fun d => d.parameters.length) = some 0 := by decide +kernel
set_option maxHeartbeats 4000000 in
set_option maxRecDepth 100000 in
theorem c_X0_below (l : Launch) (D : va_G) (cI cJ cZ cR : ClassId) (q_this q_this_tenths q_this_leaving q_this_entering : Nat) (v_this_above : Int64) (v_this_below : Int64) (P : Int64 → Prop) (hw : wp_X0_below v_this_below P) : kM l yX0_below cX0_below 1 (some .long) { frames := 0, cells := 0, slots := 0, locals := 0 } D (kTy cI cJ cZ cR) [.ref q_this] [ob q_this 0 [.ref q_this_tenths, .ref q_this_leaving, .ref q_this_entering, .long v_this_above, .long v_this_below]] (kQl0 D (kTy cI cJ cZ cR) P [ob q_this 0 [.ref q_this_tenths, .ref q_this_leaving, .ref q_this_entering, .long v_this_above, .long v_this_below]]) 0 0 := by
  refine kM.of (by decide) (Nat.le_of_ble_eq_true rfl) ?_
  intro p e s m args below meth c A ls hx hb hr ht hown hlocks hml hN hin hA hK hP hD hS hl
  replace hl : lv_has ls 1 [(0, .ref q_this)] := hl
  obtain ⟨H, hH⟩ : ∃ H : Heap, H = s.heap := ⟨_, rfl⟩
  obtain ⟨locs, hlc⟩ : ∃ L : List Loc, L = [] := ⟨_, rfl⟩
  replace hP : va_P D kCl [ob q_this 0 [.ref q_this_tenths, .ref q_this_leaving, .ref q_this_entering, .long v_this_above, .long v_this_below]] H := by rw [hH]; exact hP
  replace hS : va_S A s.heap H locs := by rw [hH, hlc]; exact hS
  replace hD : va_D A [ob q_this 0 [.ref q_this_tenths, .ref q_this_leaving, .ref q_this_entering, .long v_this_above, .long v_this_below]] := hD
  rw [show W p l e _ s m args below meth c s.heap [] 0 0 _ _ = W p l e _ s m args below meth c H locs 0 0 _ _ from by rw [hH, hlc]]
  unfold wp_X0_below at hw
  refine lv_aload_n hx hb dX0_below_0 rfl (lv_at hl 0 rfl) ?_
  refine va_get (D := D) (ci := 0) (v := .long v_this_below) (C := RX0) (T := TX0) (N := 5) hx hb ht inX0 hown hK hP 0 rfl rfl 4 (by decide) (ht _ mw_199) (fun _ h9 => h9) rfl dX0_below_1 ?_
  exact W.lret (v := v_this_below) hx hb hr (kEl0 hw hP hD hK hS) hS.2.2 dX0_below_4
def wp_J7_fill_d0a16 (p1 : Int64) (n_p0 : Nat) (f_p0 : Nat → Int64) (P : (Nat → Int64) → Prop) : Prop :=
  (∀ x_1 : Int32, x_1 = (Int32.ofNat n_p0) → (kl2 (fun (x_2 : Int32) (f_3 : Nat → Int64) K6 => ((x_1 ≤ x_2 → P f_3) ∧ (¬ x_1 ≤ x_2 → (vp_in x_2 n_p0 ∧ (∀ f_6 : Nat → Int64, f_6 = (vp_updL f_3 x_2.toNatClampNeg p1) → (∀ x_7 : Int32, x_7 = x_2 + (1 : Int32) → K6 x_7 f_6)))))) (0 : Int32) f_p0))
theorem hdJ7_fill_d0a16 : yJ7_fill_d0a16.cls ≠ "java/lang/invoke/MethodHandle" ∧ yJ7_fill_d0a16.cls ≠ "java/lang/invoke/VarHandle" ∧ (parseMethodDescriptor yJ7_fill_d0a16.desc).map (fun d => d.parameters.length) = some 2 := by decide +kernel
set_option maxHeartbeats 4000000 in
set_option maxRecDepth 100000 in
theorem c_J7_fill_d0a16 (l : Launch) (D : va_G) (cI cJ cZ cR : ClassId) (q_p0 : Nat) (n_p0 : Nat) (f_p0 : Nat → Int64) (p1 : Int64) (P : (Nat → Int64) → Prop) (hw : wp_J7_fill_d0a16 p1 n_p0 f_p0 P) : kM l yJ7_fill_d0a16 cJ7_fill_d0a16 5 none { frames := 0, cells := 0, slots := 0, locals := 0 } D (kTy cI cJ cZ cR) [.ref q_p0, .long p1] [aJ cJ q_p0 n_p0 f_p0] (kQv1 D (kTy cI cJ cZ cR) P (fun y0 => [aJ cJ q_p0 n_p0 y0])) 0 0 := by
  refine kM.of (by decide) (Nat.le_of_ble_eq_true rfl) ?_
  intro p e s m args below meth c A ls hx hb hr ht hown hlocks hml hN hin hA hK hP hD hS hl
  replace hl : lv_has ls 5 [(0, .ref q_p0), (1, .long p1)] := hl
  obtain ⟨H, hH⟩ : ∃ H : Heap, H = s.heap := ⟨_, rfl⟩
  obtain ⟨locs, hlc⟩ : ∃ L : List Loc, L = [] := ⟨_, rfl⟩
  replace hP : va_P D kCl [aJ cJ q_p0 n_p0 f_p0] H := by rw [hH]; exact hP
  replace hS : va_S A s.heap H locs := by rw [hH, hlc]; exact hS
  replace hD : va_D A [aJ cJ q_p0 n_p0 f_p0] := hD
  rw [show W p l e _ s m args below meth c s.heap [] 0 0 _ _ = W p l e _ s m args below meth c H locs 0 0 _ _ from by rw [hH, hlc]]
  unfold wp_J7_fill_d0a16 at hw
  refine lv_iconst (v := (0 : Int32)) hx hb dJ7_fill_d0a16_0 (by decide) ?_
  refine lv_istore_n (lv' := [(3, .int (0 : Int32)), (0, .ref q_p0), (1, .long p1)]) hx hb dJ7_fill_d0a16_1 rfl hl (by decide) rfl (fun ls hl => ?_)
  refine lv_aload_n hx hb dJ7_fill_d0a16_2 rfl (lv_at hl 1 rfl) ?_
  refine va_alen hx hb hK hP 0 1 rfl rfl rfl dJ7_fill_d0a16_3 ?_
  refine lv_topi (fun x_1 ex_1 => ?_)
  replace hw := hw x_1 ex_1
  refine lv_istore (lv' := [(4, .int x_1), (3, .int (0 : Int32)), (0, .ref q_p0), (1, .long p1)]) hx hb dJ7_fill_d0a16_4 hl (by decide) rfl (fun ls hl => ?_)
  refine kLoop2 (G := fun (x_2 : Int32) (f_3 : Nat → Int64) => ∀ (H : Heap) (locs : List Loc), va_P D kCl [aJ cJ q_p0 n_p0 f_3] H → va_D A [aJ cJ q_p0 n_p0 f_3] → va_S A s.heap H locs → ∀ ls : Array Slot, lv_has ls 5 [(0, .ref q_p0), (1, .long p1), (3, .int x_2), (4, .int x_1)] → W p l e _ s m args below meth c H locs _ _ _ (F0 m 6 ls [])) hw ?_ H locs hP hD hS ls (lv_sub hl [2, 3, 1, 0] rfl)
  intro x_2 f_3 K6 hK6 hw H locs hP hD hS ls hl
  refine lv_iload_n hx hb dJ7_fill_d0a16_6 rfl (lv_at hl 2 rfl) ?_
  refine lv_iload hx hb dJ7_fill_d0a16_7 (lv_at hl 3 rfl) ?_
  refine lv_icmp_ge (tgt := 22) hx hb dJ7_fill_d0a16_9 (by decide) (fun c_4 => ?_) (fun c_4 => ?_)
  · replace hw := hw.1 c_4
    exact W.vret hx hb hr (kEv1 hw hP hD hK hS) hS.2.2 dJ7_fill_d0a16_22
  · replace hw := hw.2 c_4
    refine lv_aload_n hx hb dJ7_fill_d0a16_12 rfl (lv_at hl 0 rfl) ?_
    refine lv_iload_n hx hb dJ7_fill_d0a16_13 rfl (lv_at hl 2 rfl) ?_
    refine lv_lload_n hx hb dJ7_fill_d0a16_14 rfl (lv_at hl 1 rfl) ?_
    have h_5 := hw.1
    replace hw := hw.2
    refine va_last hx hb hK hP hD hS 0 1 rfl rfl h_5 dJ7_fill_d0a16_15 (fun H locs hP hD hS => ?_)
    obtain ⟨f_6, ef_6⟩ : ∃ y : Nat → Int64, y = (vp_updL f_3 x_2.toNatClampNeg p1) := ⟨_, rfl⟩
    replace hw := hw f_6 ef_6
    replace hP : va_P D kCl [aJ cJ q_p0 n_p0 f_6] H := by rw [ef_6]; exact hP
    replace hD : va_D A [aJ cJ q_p0 n_p0 f_6] := by rw [ef_6]; exact hD
    obtain ⟨x_7, ex_7⟩ : ∃ y : Int32, y = x_2 + (1 : Int32) := ⟨_, rfl⟩
    replace hw := hw x_7 ex_7
    refine lv_iinc (v := x_7) (lv' := [(3, .int x_7), (0, .ref q_p0), (1, .long p1), (4, .int x_1)]) hx hb dJ7_fill_d0a16_16 hl (k := 2) rfl (by rw [ex_7]; rfl) (by decide) rfl (fun ls hl => ?_)
    refine lv_goto (tgt := 6) hx hb dJ7_fill_d0a16_19 (by decide) ?_
    exact hK6 _ _ hw H locs hP hD hS ls (lv_sub hl [1, 2, 0, 3] rfl)
def wp_X10_put_ (p1 : Int32) (p2 : Int64) (n_p0 : Nat) (f_p0 : Nat → Int64) (P : (Nat → Int64) → Prop) : Prop :=
  ((p1 < 0 → P f_p0) ∧ (¬ p1 < 0 → (((Int32.ofNat n_p0) ≤ p1 → P f_p0) ∧ (¬ (Int32.ofNat n_p0) ≤ p1 → (vp_in p1 n_p0 ∧ (∀ f_4 : Nat → Int64, f_4 = (vp_updL f_p0 p1.toNatClampNeg p2) → P f_4))))))
theorem hdX10_put_ : yX10_put_.cls ≠ "java/lang/invoke/MethodHandle" ∧ yX10_put_.cls ≠ "java/lang/invoke/VarHandle" ∧ (parseMethodDescriptor yX10_put_.desc).map (fun d => d.parameters.length) = some 3 := by decide +kernel
set_option maxHeartbeats 4000000 in
set_option maxRecDepth 100000 in
theorem c_X10_put_ (l : Launch) (D : va_G) (cI cJ cZ cR : ClassId) (q_p0 : Nat) (n_p0 : Nat) (f_p0 : Nat → Int64) (p1 : Int32) (p2 : Int64) (P : (Nat → Int64) → Prop) (hw : wp_X10_put_ p1 p2 n_p0 f_p0 P) : kM l yX10_put_ cX10_put_ 4 none { frames := 0, cells := 0, slots := 0, locals := 0 } D (kTy cI cJ cZ cR) [.ref q_p0, .int p1, .long p2] [aJ cJ q_p0 n_p0 f_p0] (kQv1 D (kTy cI cJ cZ cR) P (fun y0 => [aJ cJ q_p0 n_p0 y0])) 0 0 := by
  refine kM.of (by decide) (Nat.le_of_ble_eq_true rfl) ?_
  intro p e s m args below meth c A ls hx hb hr ht hown hlocks hml hN hin hA hK hP hD hS hl
  replace hl : lv_has ls 4 [(0, .ref q_p0), (1, .int p1), (2, .long p2)] := hl
  obtain ⟨H, hH⟩ : ∃ H : Heap, H = s.heap := ⟨_, rfl⟩
  obtain ⟨locs, hlc⟩ : ∃ L : List Loc, L = [] := ⟨_, rfl⟩
  replace hP : va_P D kCl [aJ cJ q_p0 n_p0 f_p0] H := by rw [hH]; exact hP
  replace hS : va_S A s.heap H locs := by rw [hH, hlc]; exact hS
  replace hD : va_D A [aJ cJ q_p0 n_p0 f_p0] := hD
  rw [show W p l e _ s m args below meth c s.heap [] 0 0 _ _ = W p l e _ s m args below meth c H locs 0 0 _ _ from by rw [hH, hlc]]
  unfold wp_X10_put_ at hw
  refine lv_iload_n hx hb dX10_put__0 rfl (lv_at hl 1 rfl) ?_
  refine lv_if_lt (tgt := 14) hx hb dX10_put__1 (by decide) (fun c_1 => ?_) (fun c_1 => ?_)
  · replace hw := hw.1 c_1
    exact W.vret hx hb hr (kEv1 hw hP hD hK hS) hS.2.2 dX10_put__14
  · replace hw := hw.2 c_1
    refine lv_iload_n hx hb dX10_put__4 rfl (lv_at hl 1 rfl) ?_
    refine lv_aload_n hx hb dX10_put__5 rfl (lv_at hl 0 rfl) ?_
    refine va_alen hx hb hK hP 0 1 rfl rfl rfl dX10_put__6 ?_
    refine lv_icmp_ge (tgt := 14) hx hb dX10_put__7 (by decide) (fun c_2 => ?_) (fun c_2 => ?_)
    · replace hw := hw.1 c_2
      exact W.vret hx hb hr (kEv1 hw hP hD hK hS) hS.2.2 dX10_put__14
    · replace hw := hw.2 c_2
      refine lv_aload_n hx hb dX10_put__10 rfl (lv_at hl 0 rfl) ?_
      refine lv_iload_n hx hb dX10_put__11 rfl (lv_at hl 1 rfl) ?_
      refine lv_lload_n hx hb dX10_put__12 rfl (lv_at hl 2 rfl) ?_
      have h_3 := hw.1
      replace hw := hw.2
      refine va_last hx hb hK hP hD hS 0 1 rfl rfl h_3 dX10_put__13 (fun H locs hP hD hS => ?_)
      obtain ⟨f_4, ef_4⟩ : ∃ y : Nat → Int64, y = (vp_updL f_p0 p1.toNatClampNeg p2) := ⟨_, rfl⟩
      replace hw := hw f_4 ef_4
      replace hP : va_P D kCl [aJ cJ q_p0 n_p0 f_4] H := by rw [ef_4]; exact hP
      replace hD : va_D A [aJ cJ q_p0 n_p0 f_4] := by rw [ef_4]; exact hD
      exact W.vret hx hb hr (kEv1 hw hP hD hK hS) hS.2.2 dX10_put__14
def wp_X10_at_ (p1 : Int32) (n_p0 : Nat) (f_p0 : Nat → Int64) (P : Int64 → Prop) : Prop :=
  ((p1 < 0 → P (0 : Int64)) ∧ (¬ p1 < 0 → (((Int32.ofNat n_p0) ≤ p1 → P (0 : Int64)) ∧ (¬ (Int32.ofNat n_p0) ≤ p1 → (vp_in p1 n_p0 ∧ P (f_p0 p1.toNatClampNeg))))))
theorem hdX10_at_ : yX10_at_.cls ≠ "java/lang/invoke/MethodHandle" ∧ yX10_at_.cls ≠ "java/lang/invoke/VarHandle" ∧ (parseMethodDescriptor yX10_at_.desc).map (fun d => d.parameters.length) = some 2 := by decide +kernel
set_option maxHeartbeats 4000000 in
set_option maxRecDepth 100000 in
theorem c_X10_at_ (l : Launch) (D : va_G) (cI cJ cZ cR : ClassId) (q_p0 : Nat) (n_p0 : Nat) (f_p0 : Nat → Int64) (p1 : Int32) (P : Int64 → Prop) (hw : wp_X10_at_ p1 n_p0 f_p0 P) : kM l yX10_at_ cX10_at_ 2 (some .long) { frames := 0, cells := 0, slots := 0, locals := 0 } D (kTy cI cJ cZ cR) [.ref q_p0, .int p1] [aJ cJ q_p0 n_p0 f_p0] (kQl0 D (kTy cI cJ cZ cR) P [aJ cJ q_p0 n_p0 f_p0]) 0 0 := by
  refine kM.of (by decide) (Nat.le_of_ble_eq_true rfl) ?_
  intro p e s m args below meth c A ls hx hb hr ht hown hlocks hml hN hin hA hK hP hD hS hl
  replace hl : lv_has ls 2 [(0, .ref q_p0), (1, .int p1)] := hl
  obtain ⟨H, hH⟩ : ∃ H : Heap, H = s.heap := ⟨_, rfl⟩
  obtain ⟨locs, hlc⟩ : ∃ L : List Loc, L = [] := ⟨_, rfl⟩
  replace hP : va_P D kCl [aJ cJ q_p0 n_p0 f_p0] H := by rw [hH]; exact hP
  replace hS : va_S A s.heap H locs := by rw [hH, hlc]; exact hS
  replace hD : va_D A [aJ cJ q_p0 n_p0 f_p0] := hD
  rw [show W p l e _ s m args below meth c s.heap [] 0 0 _ _ = W p l e _ s m args below meth c H locs 0 0 _ _ from by rw [hH, hlc]]
  unfold wp_X10_at_ at hw
  refine lv_iload_n hx hb dX10_at__0 rfl (lv_at hl 1 rfl) ?_
  refine lv_if_lt (tgt := 16) hx hb dX10_at__1 (by decide) (fun c_1 => ?_) (fun c_1 => ?_)
  · replace hw := hw.1 c_1
    refine lv_lconst (v := (0 : Int64)) hx hb dX10_at__16 (by decide) ?_
    exact W.lret (v := (0 : Int64)) hx hb hr (kEl0 hw hP hD hK hS) hS.2.2 dX10_at__17
  · replace hw := hw.2 c_1
    refine lv_iload_n hx hb dX10_at__4 rfl (lv_at hl 1 rfl) ?_
    refine lv_aload_n hx hb dX10_at__5 rfl (lv_at hl 0 rfl) ?_
    refine va_alen hx hb hK hP 0 1 rfl rfl rfl dX10_at__6 ?_
    refine lv_icmp_ge (tgt := 16) hx hb dX10_at__7 (by decide) (fun c_2 => ?_) (fun c_2 => ?_)
    · replace hw := hw.1 c_2
      refine lv_lconst (v := (0 : Int64)) hx hb dX10_at__16 (by decide) ?_
      exact W.lret (v := (0 : Int64)) hx hb hr (kEl0 hw hP hD hK hS) hS.2.2 dX10_at__17
    · replace hw := hw.2 c_2
      refine lv_aload_n hx hb dX10_at__10 rfl (lv_at hl 0 rfl) ?_
      refine lv_iload_n hx hb dX10_at__11 rfl (lv_at hl 1 rfl) ?_
      have h_3 := hw.1
      replace hw := hw.2
      refine va_lald hx hb hK hP 0 1 rfl rfl h_3 dX10_at__12 ?_
      refine lv_goto (tgt := 17) hx hb dX10_at__13 (by decide) ?_
      exact W.lret (v := (f_p0 p1.toNatClampNeg)) hx hb hr (kEl0 hw hP hD hK hS) hS.2.2 dX10_at__17
def wp_X0_join (p0 : Int32) (n_p1 : Nat) (f_p1 : Nat → Int64) (P : (Nat → Int64) → Prop) : Prop :=
  (kl2 (fun (x_1 : Int32) (f_2 : Nat → Int64) K3 => ((x_1 < 0 → P f_2) ∧ (¬ x_1 < 0 → (wp_X10_at_ x_1 n_p1 f_2 (fun r_4 => (wp_X10_at_ (x_1 - (1 : Int32)) n_p1 f_2 (fun r_5 => (wp_X10_put_ x_1 ((r_4 * (((10 : Int32) - p0).toInt64)) + (r_5 * (p0.toInt64))) n_p1 f_2 (fun f_6 => (∀ x_7 : Int32, x_7 = x_1 + (-1 : Int32) → K3 x_7 f_6)))))))))) (6 : Int32) f_p1)
theorem hdX0_join : yX0_join.cls ≠ "java/lang/invoke/MethodHandle" ∧ yX0_join.cls ≠ "java/lang/invoke/VarHandle" ∧ (parseMethodDescriptor yX0_join.desc).map (fun d => d.parameters.length) = some 2 := by decide +kernel
set_option maxHeartbeats 4000000 in
set_option maxRecDepth 100000 in
theorem c_X0_join (l : Launch) (D : va_G) (cI cJ cZ cR : ClassId) (q_p1 : Nat) (n_p1 : Nat) (f_p1 : Nat → Int64) (p0 : Int32) (P : (Nat → Int64) → Prop) (hw : wp_X0_join p0 n_p1 f_p1 P) : kM l yX0_join cX0_join 3 none { frames := 1, cells := 0, slots := 0, locals := 23 } D (kTy cI cJ cZ cR) [.int p0, .ref q_p1] [aJ cJ q_p1 n_p1 f_p1] (kQv1 D (kTy cI cJ cZ cR) P (fun y0 => [aJ cJ q_p1 n_p1 y0])) 0 0 := by
  refine kM.of (by decide) (Nat.le_of_ble_eq_true rfl) ?_
  intro p e s m args below meth c A ls hx hb hr ht hown hlocks hml hN hin hA hK hP hD hS hl
  replace hl : lv_has ls 3 [(0, .int p0), (1, .ref q_p1)] := hl
  obtain ⟨H, hH⟩ : ∃ H : Heap, H = s.heap := ⟨_, rfl⟩
  obtain ⟨locs, hlc⟩ : ∃ L : List Loc, L = [] := ⟨_, rfl⟩
  replace hP : va_P D kCl [aJ cJ q_p1 n_p1 f_p1] H := by rw [hH]; exact hP
  replace hS : va_S A s.heap H locs := by rw [hH, hlc]; exact hS
  replace hD : va_D A [aJ cJ q_p1 n_p1 f_p1] := hD
  rw [show W p l e _ s m args below meth c s.heap [] 0 0 _ _ = W p l e _ s m args below meth c H locs 0 0 _ _ from by rw [hH, hlc]]
  unfold wp_X0_join at hw
  refine lv_bipush (v := (6 : Int32)) hx hb dX0_join_0 (by decide) ?_
  refine lv_istore_n (lv' := [(2, .int (6 : Int32)), (0, .int p0), (1, .ref q_p1)]) hx hb dX0_join_2 rfl hl (by decide) rfl (fun ls hl => ?_)
  refine kLoop2 (G := fun (x_1 : Int32) (f_2 : Nat → Int64) => ∀ (H : Heap) (locs : List Loc), va_P D kCl [aJ cJ q_p1 n_p1 f_2] H → va_D A [aJ cJ q_p1 n_p1 f_2] → va_S A s.heap H locs → ∀ ls : Array Slot, lv_has ls 3 [(0, .int p0), (1, .ref q_p1), (2, .int x_1)] → W p l e _ s m args below meth c H locs _ _ _ (F0 m 3 ls [])) hw ?_ H locs hP hD hS ls (lv_sub hl [1, 2, 0] rfl)
  intro x_1 f_2 K3 hK3 hw H locs hP hD hS ls hl
  refine lv_iload_n hx hb dX0_join_3 rfl (lv_at hl 2 rfl) ?_
  refine lv_if_lt (tgt := 40) hx hb dX0_join_4 (by decide) (fun c_3 => ?_) (fun c_3 => ?_)
  · replace hw := hw.1 c_3
    exact W.vret hx hb hr (kEv1 hw hP hD hK hS) hS.2.2 dX0_join_40
  · replace hw := hw.2 c_3
    refine lv_aload_n hx hb dX0_join_7 rfl (lv_at hl 1 rfl) ?_
    refine lv_iload_n hx hb dX0_join_8 rfl (lv_at hl 2 rfl) ?_
    refine lv_aload_n hx hb dX0_join_9 rfl (lv_at hl 1 rfl) ?_
    refine lv_iload_n hx hb dX0_join_10 rfl (lv_at hl 2 rfl) ?_
    refine kCl0 (kRSN hx hb hml hown ht hN hK hP hD (c_X10_at_ l D cI cJ cZ cR q_p1 n_p1 f_2 x_1 _ hw) [0] rfl rfl mn_780 mw_720 mw_1 mw_721 hdX10_at_ ⟨Nat.le_of_ble_eq_true rfl, Nat.le_of_ble_eq_true rfl⟩ ⟨rfl, rfl⟩ hl.1 rfl (Nat.le_of_ble_eq_true rfl) dX0_join_11 ⟨Nat.zero_le _, Nat.zero_le _⟩) hP hD hS hA [0] [] [0] rfl rfl rfl rfl [aJ cJ q_p1 n_p1 f_2] rfl rfl (fun r_4 H locs hw hP hD hS => ?_)
    refine lv_bipush (v := (10 : Int32)) hx hb dX0_join_14 (by decide) ?_
    refine lv_iload_n hx hb dX0_join_16 rfl (lv_at hl 0 rfl) ?_
    refine lv_isub hx hb dX0_join_17 ?_
    refine lv_i2l (v := ((10 : Int32) - p0).toInt64) hx hb dX0_join_18 rfl ?_
    refine lv_lmul hx hb dX0_join_19 ?_
    refine lv_aload_n hx hb dX0_join_20 rfl (lv_at hl 1 rfl) ?_
    refine lv_iload_n hx hb dX0_join_21 rfl (lv_at hl 2 rfl) ?_
    refine lv_iconst (v := (1 : Int32)) hx hb dX0_join_22 (by decide) ?_
    refine lv_isub hx hb dX0_join_23 ?_
    refine kCl0 (kRSN hx hb hml hown ht hN hK hP hD (c_X10_at_ l D cI cJ cZ cR q_p1 n_p1 f_2 (x_1 - (1 : Int32)) _ hw) [0] rfl rfl mn_780 mw_720 mw_1 mw_721 hdX10_at_ ⟨Nat.le_of_ble_eq_true rfl, Nat.le_of_ble_eq_true rfl⟩ ⟨rfl, rfl⟩ hl.1 rfl (Nat.le_of_ble_eq_true rfl) dX0_join_24 ⟨Nat.zero_le _, Nat.zero_le _⟩) hP hD hS hA [0] [] [0] rfl rfl rfl rfl [aJ cJ q_p1 n_p1 f_2] rfl rfl (fun r_5 H locs hw hP hD hS => ?_)
    refine lv_iload_n hx hb dX0_join_27 rfl (lv_at hl 0 rfl) ?_
    refine lv_i2l (v := p0.toInt64) hx hb dX0_join_28 rfl ?_
    refine lv_lmul hx hb dX0_join_29 ?_
    refine lv_ladd hx hb dX0_join_30 ?_
    refine kCv1 (kRSN hx hb hml hown ht hN hK hP hD (c_X10_put_ l D cI cJ cZ cR q_p1 n_p1 f_2 x_1 ((r_4 * (((10 : Int32) - p0).toInt64)) + (r_5 * (p0.toInt64))) _ hw) [0] rfl rfl mn_776 mw_716 mw_1 mw_717 hdX10_put_ ⟨Nat.le_of_ble_eq_true rfl, Nat.le_of_ble_eq_true rfl⟩ ⟨rfl, rfl⟩ hl.1 rfl (Nat.le_of_ble_eq_true rfl) dX0_join_31 ⟨Nat.zero_le _, Nat.zero_le _⟩) hP hD hS hA [0] [] [0] rfl rfl rfl rfl (fun f_6 => [aJ cJ q_p1 n_p1 f_6]) (fun _ => rfl) rfl (fun f_6 H locs hw hP hD hS => ?_)
    obtain ⟨x_7, ex_7⟩ : ∃ y : Int32, y = x_1 + (-1 : Int32) := ⟨_, rfl⟩
    replace hw := hw x_7 ex_7
    refine lv_iinc (v := x_7) (lv' := [(2, .int x_7), (0, .int p0), (1, .ref q_p1)]) hx hb dX0_join_34 hl (k := 2) rfl (by rw [ex_7]; rfl) (by decide) rfl (fun ls hl => ?_)
    refine lv_goto (tgt := 3) hx hb dX0_join_37 (by decide) ?_
    exact hK3 _ _ hw H locs hP hD hS ls (lv_sub hl [1, 2, 0] rfl)
def wp_X0_weighOne (p0 : Int32) (n_p1 : Nat) (f_p1 : Nat → Int64) (f_this_tenths : Nat → Int32) (P : Int64 → (Nat → Int64) → Prop) : Prop :=
  (wp_J7_fill_d0a16 (0 : Int64) n_p1 f_p1 (fun f_1 => (wp_X10_put_ (0 : Int32) (1 : Int64) n_p1 f_1 (fun f_2 => (kl3 (fun (x_3 : Int64) (x_4 : Int32) (f_5 : Nat → Int64) K16 => (((6 : Int32) ≤ x_4 → P x_3 f_5) ∧ (¬ (6 : Int32) ≤ x_4 → (((p0 &&& ((1 : Int32) <<< (x_4 &&& 31))) = 0 → (∀ x_8 : Int32, x_8 = x_4 + (1 : Int32) → K16 x_3 x_8 f_5)) ∧ (¬ (p0 &&& ((1 : Int32) <<< (x_4 &&& 31))) = 0 → (wp_X10_at x_4 6 f_this_tenths (fun r_9 => (wp_X0_join r_9 n_p1 f_5 (fun f_10 => (∀ x_11 : Int64, x_11 = (x_3 * (10 : Int64)) → (∀ x_12 : Int32, x_12 = x_4 + (1 : Int32) → K16 x_11 x_12 f_10))))))))))) (1 : Int64) (0 : Int32) f_2)))))
theorem hdX0_weighOne : yX0_weighOne.cls ≠ "java/lang/invoke/MethodHandle" ∧ yX0_weighOne.cls ≠ "java/lang/invoke/VarHandle" ∧ (parseMethodDescriptor yX0_weighOne.desc).map (fun d => d.parameters.length) = some 2 := by decide +kernel
set_option maxHeartbeats 4000000 in
set_option maxRecDepth 100000 in
theorem c_X0_weighOne (l : Launch) (D : va_G) (cI cJ cZ cR : ClassId) (q_this q_this_tenths q_this_leaving q_this_entering q_p1 : Nat) (n_p1 : Nat) (v_this_above : Int64) (v_this_below : Int64) (f_p1 : Nat → Int64) (f_this_tenths : Nat → Int32) (p0 : Int32) (P : Int64 → (Nat → Int64) → Prop) (hw : wp_X0_weighOne p0 n_p1 f_p1 f_this_tenths P) : kM l yX0_weighOne cX0_weighOne 6 (some .long) { frames := 2, cells := 0, slots := 0, locals := 45 } D (kTy cI cJ cZ cR) [.ref q_this, .int p0, .ref q_p1] [ob q_this 0 [.ref q_this_tenths, .ref q_this_leaving, .ref q_this_entering, .long v_this_above, .long v_this_below], aJ cJ q_p1 n_p1 f_p1, aI cI q_this_tenths 6 f_this_tenths] (kQl1 D (kTy cI cJ cZ cR) P (fun y0 => [ob q_this 0 [.ref q_this_tenths, .ref q_this_leaving, .ref q_this_entering, .long v_this_above, .long v_this_below], aJ cJ q_p1 n_p1 y0, aI cI q_this_tenths 6 f_this_tenths])) 0 0 := by
  refine kM.of (by decide) (Nat.le_of_ble_eq_true rfl) ?_
  intro p e s m args below meth c A ls hx hb hr ht hown hlocks hml hN hin hA hK hP hD hS hl
  replace hl : lv_has ls 6 [(0, .ref q_this), (1, .int p0), (2, .ref q_p1)] := hl
  obtain ⟨H, hH⟩ : ∃ H : Heap, H = s.heap := ⟨_, rfl⟩
  obtain ⟨locs, hlc⟩ : ∃ L : List Loc, L = [] := ⟨_, rfl⟩
  replace hP : va_P D kCl [ob q_this 0 [.ref q_this_tenths, .ref q_this_leaving, .ref q_this_entering, .long v_this_above, .long v_this_below], aJ cJ q_p1 n_p1 f_p1, aI cI q_this_tenths 6 f_this_tenths] H := by rw [hH]; exact hP
  replace hS : va_S A s.heap H locs := by rw [hH, hlc]; exact hS
  replace hD : va_D A [ob q_this 0 [.ref q_this_tenths, .ref q_this_leaving, .ref q_this_entering, .long v_this_above, .long v_this_below], aJ cJ q_p1 n_p1 f_p1, aI cI q_this_tenths 6 f_this_tenths] := hD
  rw [show W p l e _ s m args below meth c s.heap [] 0 0 _ _ = W p l e _ s m args below meth c H locs 0 0 _ _ from by rw [hH, hlc]]
  unfold wp_X0_weighOne at hw
  refine lv_lconst (v := (1 : Int64)) hx hb dX0_weighOne_0 (by decide) ?_
  refine lv_lstore_n (lv' := [(3, .long (1 : Int64)), (0, .ref q_this), (1, .int p0), (2, .ref q_p1)]) hx hb dX0_weighOne_1 rfl hl (by decide) rfl (fun ls hl => ?_)
  refine lv_aload_n hx hb dX0_weighOne_2 rfl (lv_at hl 3 rfl) ?_
  refine lv_lconst (v := (0 : Int64)) hx hb dX0_weighOne_3 (by decide) ?_
  refine kCv1 (kRS hx hb hml hown ht hN hK hP hD (c_J7_fill_d0a16 l D cI cJ cZ cR q_p1 n_p1 f_p1 (0 : Int64) _ hw) [1] rfl rfl mw_775 mw_713 mw_10 mw_714 hdJ7_fill_d0a16 ⟨Nat.le_of_ble_eq_true rfl, Nat.le_of_ble_eq_true rfl⟩ ⟨rfl, rfl⟩ hl.1 rfl (Nat.le_of_ble_eq_true rfl) dX0_weighOne_4 ⟨Nat.zero_le _, Nat.zero_le _⟩) hP hD hS hA [1] [0, 2] [0, 2, 1] rfl rfl rfl rfl (fun f_1 => [ob q_this 0 [.ref q_this_tenths, .ref q_this_leaving, .ref q_this_entering, .long v_this_above, .long v_this_below], aJ cJ q_p1 n_p1 f_1, aI cI q_this_tenths 6 f_this_tenths]) (fun _ => rfl) rfl (fun f_1 H locs hw hP hD hS => ?_)
  refine lv_aload_n hx hb dX0_weighOne_7 rfl (lv_at hl 3 rfl) ?_
  refine lv_iconst (v := (0 : Int32)) hx hb dX0_weighOne_8 (by decide) ?_
  refine lv_lconst (v := (1 : Int64)) hx hb dX0_weighOne_9 (by decide) ?_
  refine kCv1 (kRSN hx hb hml hown ht hN hK hP hD (c_X10_put_ l D cI cJ cZ cR q_p1 n_p1 f_1 (0 : Int32) (1 : Int64) _ hw) [1] rfl rfl mn_776 mw_716 mw_1 mw_717 hdX10_put_ ⟨Nat.le_of_ble_eq_true rfl, Nat.le_of_ble_eq_true rfl⟩ ⟨rfl, rfl⟩ hl.1 rfl (Nat.le_of_ble_eq_true rfl) dX0_weighOne_10 ⟨Nat.zero_le _, Nat.zero_le _⟩) hP hD hS hA [1] [0, 2] [0, 2, 1] rfl rfl rfl rfl (fun f_2 => [ob q_this 0 [.ref q_this_tenths, .ref q_this_leaving, .ref q_this_entering, .long v_this_above, .long v_this_below], aJ cJ q_p1 n_p1 f_2, aI cI q_this_tenths 6 f_this_tenths]) (fun _ => rfl) rfl (fun f_2 H locs hw hP hD hS => ?_)
  refine lv_iconst (v := (0 : Int32)) hx hb dX0_weighOne_13 (by decide) ?_
  refine lv_istore (lv' := [(5, .int (0 : Int32)), (3, .long (1 : Int64)), (0, .ref q_this), (1, .int p0), (2, .ref q_p1)]) hx hb dX0_weighOne_14 hl (by decide) rfl (fun ls hl => ?_)
  refine kLoop3 (G := fun (x_3 : Int64) (x_4 : Int32) (f_5 : Nat → Int64) => ∀ (H : Heap) (locs : List Loc), va_P D kCl [ob q_this 0 [.ref q_this_tenths, .ref q_this_leaving, .ref q_this_entering, .long v_this_above, .long v_this_below], aJ cJ q_p1 n_p1 f_5, aI cI q_this_tenths 6 f_this_tenths] H → va_D A [ob q_this 0 [.ref q_this_tenths, .ref q_this_leaving, .ref q_this_entering, .long v_this_above, .long v_this_below], aJ cJ q_p1 n_p1 f_5, aI cI q_this_tenths 6 f_this_tenths] → va_S A s.heap H locs → ∀ ls : Array Slot, lv_has ls 6 [(0, .ref q_this), (1, .int p0), (2, .ref q_p1), (3, .long x_3), (5, .int x_4)] → W p l e _ s m args below meth c H locs _ _ _ (F0 m 16 ls [])) hw ?_ H locs hP hD hS ls (lv_sub hl [2, 3, 4, 1, 0] rfl)
  intro x_3 x_4 f_5 K16 hK16 hw H locs hP hD hS ls hl
  refine lv_iload hx hb dX0_weighOne_16 (lv_at hl 4 rfl) ?_
  refine lv_bipush (v := (6 : Int32)) hx hb dX0_weighOne_18 (by decide) ?_
  refine lv_icmp_ge (tgt := 57) hx hb dX0_weighOne_20 (by decide) (fun c_6 => ?_) (fun c_6 => ?_)
  · replace hw := hw.1 c_6
    refine lv_lload_n hx hb dX0_weighOne_57 rfl (lv_at hl 3 rfl) ?_
    exact W.lret (v := x_3) hx hb hr (kEl1 hw hP hD hK hS) hS.2.2 dX0_weighOne_58
  · replace hw := hw.2 c_6
    refine lv_iload_n hx hb dX0_weighOne_23 rfl (lv_at hl 1 rfl) ?_
    refine lv_iconst (v := (1 : Int32)) hx hb dX0_weighOne_24 (by decide) ?_
    refine lv_iload hx hb dX0_weighOne_25 (lv_at hl 4 rfl) ?_
    refine lv_ishl hx hb dX0_weighOne_27 ?_
    refine lv_iand hx hb dX0_weighOne_28 ?_
    refine lv_if_eq (tgt := 51) hx hb dX0_weighOne_29 (by decide) (fun c_7 => ?_) (fun c_7 => ?_)
    · replace hw := hw.1 c_7
      obtain ⟨x_8, ex_8⟩ : ∃ y : Int32, y = x_4 + (1 : Int32) := ⟨_, rfl⟩
      replace hw := hw x_8 ex_8
      refine lv_iinc (v := x_8) (lv' := [(5, .int x_8), (0, .ref q_this), (1, .int p0), (2, .ref q_p1), (3, .long x_3)]) hx hb dX0_weighOne_51 hl (k := 4) rfl (by rw [ex_8]; rfl) (by decide) rfl (fun ls hl => ?_)
      refine lv_goto (tgt := 16) hx hb dX0_weighOne_54 (by decide) ?_
      exact hK16 _ _ _ hw H locs hP hD hS ls (lv_sub hl [1, 2, 3, 4, 0] rfl)
    · replace hw := hw.2 c_7
      refine lv_aload_n hx hb dX0_weighOne_32 rfl (lv_at hl 0 rfl) ?_
      refine va_get (D := D) (ci := 0) (v := .ref q_this_tenths) (C := RX0) (T := TX0) (N := 5) hx hb ht inX0 hown hK hP 0 rfl rfl 0 (by decide) (ht _ mw_195) (fun _ h9 => h9) rfl dX0_weighOne_33 ?_
      refine lv_iload hx hb dX0_weighOne_36 (lv_at hl 4 rfl) ?_
      refine kCi0 (kRSN hx hb hml hown ht hN hK hP hD (c_X10_at l D cI cJ cZ cR q_this_tenths 6 f_this_tenths x_4 _ hw) [2] rfl rfl mn_761 mw_286 mw_1 mw_287 hdX10_at ⟨Nat.le_of_ble_eq_true rfl, Nat.le_of_ble_eq_true rfl⟩ ⟨rfl, rfl⟩ hl.1 rfl (Nat.le_of_ble_eq_true rfl) dX0_weighOne_38 ⟨Nat.zero_le _, Nat.zero_le _⟩) hP hD hS hA [2] [0, 1] [0, 1, 2] rfl rfl rfl rfl [ob q_this 0 [.ref q_this_tenths, .ref q_this_leaving, .ref q_this_entering, .long v_this_above, .long v_this_below], aJ cJ q_p1 n_p1 f_5, aI cI q_this_tenths 6 f_this_tenths] rfl rfl (fun r_9 H locs hw hP hD hS => ?_)
      refine lv_aload_n hx hb dX0_weighOne_41 rfl (lv_at hl 2 rfl) ?_
      refine kCv1 (kRS hx hb hml hown ht hN hK hP hD (c_X0_join l D cI cJ cZ cR q_p1 n_p1 f_5 r_9 _ hw) [1] rfl rfl mw_777 mw_778 mw_9 mw_779 hdX0_join ⟨Nat.le_of_ble_eq_true rfl, Nat.le_of_ble_eq_true rfl⟩ ⟨rfl, rfl⟩ hl.1 rfl (Nat.le_of_ble_eq_true rfl) dX0_weighOne_42 ⟨Nat.zero_le _, Nat.zero_le _⟩) hP hD hS hA [1] [0, 2] [0, 2, 1] rfl rfl rfl rfl (fun f_10 => [ob q_this 0 [.ref q_this_tenths, .ref q_this_leaving, .ref q_this_entering, .long v_this_above, .long v_this_below], aJ cJ q_p1 n_p1 f_10, aI cI q_this_tenths 6 f_this_tenths]) (fun _ => rfl) rfl (fun f_10 H locs hw hP hD hS => ?_)
      refine lv_lload_n hx hb dX0_weighOne_45 rfl (lv_at hl 3 rfl) ?_
      refine lv_ldc2 hx hb hown (ht _ mw_781) dX0_weighOne_46 ?_
      refine lv_lmul hx hb dX0_weighOne_49 ?_
      refine lv_topl (fun x_11 ex_11 => ?_)
      replace hw := hw x_11 ex_11
      refine lv_lstore_n (lv' := [(3, .long x_11), (0, .ref q_this), (1, .int p0), (2, .ref q_p1), (5, .int x_4)]) hx hb dX0_weighOne_50 rfl hl (by decide) rfl (fun ls hl => ?_)
      obtain ⟨x_12, ex_12⟩ : ∃ y : Int32, y = x_4 + (1 : Int32) := ⟨_, rfl⟩
      replace hw := hw x_12 ex_12
      refine lv_iinc (v := x_12) (lv' := [(5, .int x_12), (3, .long x_11), (0, .ref q_this), (1, .int p0), (2, .ref q_p1)]) hx hb dX0_weighOne_51 hl (k := 4) rfl (by rw [ex_12]; rfl) (by decide) rfl (fun ls hl => ?_)
      refine lv_goto (tgt := 16) hx hb dX0_weighOne_54 (by decide) ?_
      exact hK16 _ _ _ hw H locs hP hD hS ls (lv_sub hl [2, 3, 4, 1, 0] rfl)
def wp_X0_commonDivisor (p0 : Int64) (p1 : Int64) (P : Int64 → Prop) : Prop :=
  (kl3 (fun (x_1 : Int64) (x_2 : Int64) (x_3 : Int32) K9 => (((100 : Int32) ≤ x_3 → P x_1) ∧ (¬ (100 : Int32) ≤ x_3 → (((lg_cmp x_2 (0 : Int64)) = 0 → P x_1) ∧ (¬ (lg_cmp x_2 (0 : Int64)) = 0 → (¬ x_2 = 0 ∧ (∀ x_7 : Int64, x_7 = (x_1 - x_1 / x_2 * x_2) → (∀ x_8 : Int32, x_8 = x_3 + (1 : Int32) → K9 x_2 x_7 x_8)))))))) p0 p1 (0 : Int32))
theorem hdX0_commonDivisor : yX0_commonDivisor.cls ≠ "java/lang/invoke/MethodHandle" ∧ yX0_commonDivisor.cls ≠ "java/lang/invoke/VarHandle" ∧ (parseMethodDescriptor yX0_commonDivisor.desc).map (fun d => d.parameters.length) = some 2 := by decide +kernel
set_option maxHeartbeats 4000000 in
set_option maxRecDepth 100000 in
theorem c_X0_commonDivisor (l : Launch) (D : va_G) (cI cJ cZ cR : ClassId) (p0 : Int64) (p1 : Int64) (P : Int64 → Prop) (hw : wp_X0_commonDivisor p0 p1 P) : kM l yX0_commonDivisor cX0_commonDivisor 11 (some .long) { frames := 0, cells := 0, slots := 0, locals := 0 } D (kTy cI cJ cZ cR) [.long p0, .long p1] [] (kQl0 D (kTy cI cJ cZ cR) P []) 0 0 := by
  refine kM.of (by decide) (Nat.le_of_ble_eq_true rfl) ?_
  intro p e s m args below meth c A ls hx hb hr ht hown hlocks hml hN hin hA hK hP hD hS hl
  replace hl : lv_has ls 11 [(0, .long p0), (2, .long p1)] := hl
  obtain ⟨H, hH⟩ : ∃ H : Heap, H = s.heap := ⟨_, rfl⟩
  obtain ⟨locs, hlc⟩ : ∃ L : List Loc, L = [] := ⟨_, rfl⟩
  replace hP : va_P D kCl [] H := by rw [hH]; exact hP
  replace hS : va_S A s.heap H locs := by rw [hH, hlc]; exact hS
  replace hD : va_D A [] := hD
  rw [show W p l e _ s m args below meth c s.heap [] 0 0 _ _ = W p l e _ s m args below meth c H locs 0 0 _ _ from by rw [hH, hlc]]
  unfold wp_X0_commonDivisor at hw
  refine lv_lload_n hx hb dX0_commonDivisor_0 rfl (lv_at hl 0 rfl) ?_
  refine lv_lstore (lv' := [(4, .long p0), (0, .long p0), (2, .long p1)]) hx hb dX0_commonDivisor_1 hl (by decide) rfl (fun ls hl => ?_)
  refine lv_lload_n hx hb dX0_commonDivisor_3 rfl (lv_at hl 2 rfl) ?_
  refine lv_lstore (lv' := [(6, .long p1), (4, .long p0), (0, .long p0), (2, .long p1)]) hx hb dX0_commonDivisor_4 hl (by decide) rfl (fun ls hl => ?_)
  refine lv_iconst (v := (0 : Int32)) hx hb dX0_commonDivisor_6 (by decide) ?_
  refine lv_istore (lv' := [(8, .int (0 : Int32)), (6, .long p1), (4, .long p0), (0, .long p0), (2, .long p1)]) hx hb dX0_commonDivisor_7 hl (by decide) rfl (fun ls hl => ?_)
  refine kLoop3 (G := fun (x_1 : Int64) (x_2 : Int64) (x_3 : Int32) => ∀ (H : Heap) (locs : List Loc), va_P D kCl [] H → va_D A [] → va_S A s.heap H locs → ∀ ls : Array Slot, lv_has ls 11 [(4, .long x_1), (6, .long x_2), (8, .int x_3)] → W p l e _ s m args below meth c H locs _ _ _ (F0 m 9 ls [])) hw ?_ H locs hP hD hS ls (lv_sub hl [2, 1, 0] rfl)
  intro x_1 x_2 x_3 K9 hK9 hw H locs hP hD hS ls hl
  refine lv_iload hx hb dX0_commonDivisor_9 (lv_at hl 2 rfl) ?_
  refine lv_bipush (v := (100 : Int32)) hx hb dX0_commonDivisor_11 (by decide) ?_
  refine lv_icmp_ge (tgt := 44) hx hb dX0_commonDivisor_13 (by decide) (fun c_4 => ?_) (fun c_4 => ?_)
  · replace hw := hw.1 c_4
    refine lv_lload hx hb dX0_commonDivisor_44 (lv_at hl 0 rfl) ?_
    exact W.lret (v := x_1) hx hb hr (kEl0 hw hP hD hK hS) hS.2.2 dX0_commonDivisor_46
  · replace hw := hw.2 c_4
    refine lv_lload hx hb dX0_commonDivisor_16 (lv_at hl 1 rfl) ?_
    refine lv_lconst (v := (0 : Int64)) hx hb dX0_commonDivisor_18 (by decide) ?_
    refine W.lcmp hx hb dX0_commonDivisor_19 ?_
    refine lv_if_eq (tgt := 44) hx hb dX0_commonDivisor_20 (by decide) (fun c_5 => ?_) (fun c_5 => ?_)
    · replace hw := hw.1 c_5
      refine lv_lload hx hb dX0_commonDivisor_44 (lv_at hl 0 rfl) ?_
      exact W.lret (v := x_1) hx hb hr (kEl0 hw hP hD hK hS) hS.2.2 dX0_commonDivisor_46
    · replace hw := hw.2 c_5
      refine lv_lload hx hb dX0_commonDivisor_23 (lv_at hl 0 rfl) ?_
      refine lv_lload hx hb dX0_commonDivisor_25 (lv_at hl 1 rfl) ?_
      have h_6 := hw.1
      replace hw := hw.2
      refine lv_lrem hx hb dX0_commonDivisor_27 h_6 ?_
      refine lv_topl (fun x_7 ex_7 => ?_)
      replace hw := hw x_7 ex_7
      refine lv_lstore (lv' := [(9, .long x_7), (4, .long x_1), (6, .long x_2), (8, .int x_3)]) hx hb dX0_commonDivisor_28 hl (by decide) rfl (fun ls hl => ?_)
      refine lv_lload hx hb dX0_commonDivisor_30 (lv_at hl 2 rfl) ?_
      refine lv_lstore (lv' := [(4, .long x_2), (9, .long x_7), (6, .long x_2), (8, .int x_3)]) hx hb dX0_commonDivisor_32 hl (by decide) rfl (fun ls hl => ?_)
      refine lv_lload hx hb dX0_commonDivisor_34 (lv_at hl 1 rfl) ?_
      refine lv_lstore (lv' := [(6, .long x_7), (4, .long x_2), (9, .long x_7), (8, .int x_3)]) hx hb dX0_commonDivisor_36 hl (by decide) rfl (fun ls hl => ?_)
      obtain ⟨x_8, ex_8⟩ : ∃ y : Int32, y = x_3 + (1 : Int32) := ⟨_, rfl⟩
      replace hw := hw x_8 ex_8
      refine lv_iinc (v := x_8) (lv' := [(8, .int x_8), (6, .long x_7), (4, .long x_2), (9, .long x_7)]) hx hb dX0_commonDivisor_38 hl (k := 3) rfl (by rw [ex_8]; rfl) (by decide) rfl (fun ls hl => ?_)
      refine lv_goto (tgt := 9) hx hb dX0_commonDivisor_41 (by decide) ?_
      exact hK9 _ _ _ hw H locs hP hD hS ls (lv_sub hl [2, 1, 0] rfl)
def wp_X0_weigh (p0 : Int32) (p1 : Int32) (v_this_above : Int64) (v_this_below : Int64) (f_this_leaving : Nat → Int64) (f_this_tenths : Nat → Int32) (f_this_entering : Nat → Int64) (P : Int64 → Int64 → (Nat → Int64) → (Nat → Int64) → Prop) : Prop :=
  (wp_X0_weighOne p0 7 f_this_leaving f_this_tenths (fun r_2 f_1 => (wp_X0_weighOne p1 7 f_this_entering f_this_tenths (fun r_4 f_3 => (∀ x_5 : Int64, x_5 = (r_2 * r_4) → (kl2 (fun (x_6 : Int64) (x_7 : Int32) K26 => (((6 : Int32) < x_7 → (wp_X0_commonDivisor x_5 x_6 (fun r_9 => (((lg_cmp r_9 (0 : Int64)) = 0 → P v_this_above v_this_below f_1 f_3) ∧ (¬ (lg_cmp r_9 (0 : Int64)) = 0 → (¬ r_9 = 0 ∧ (∀ x_12 : Int64, x_12 = (x_6 / r_9) → (¬ r_9 = 0 ∧ (∀ x_14 : Int64, x_14 = (x_5 / r_9) → P x_12 x_14 f_1 f_3))))))))) ∧ (¬ (6 : Int32) < x_7 → (wp_X10_at_ x_7 7 f_1 (fun r_15 => (wp_X10_at_ x_7 7 f_3 (fun r_16 => (∀ x_17 : Int64, x_17 = (x_6 + (r_15 * r_16)) → (∀ x_18 : Int32, x_18 = x_7 + (1 : Int32) → K26 x_17 x_18))))))))) (0 : Int64) (1 : Int32)))))))
theorem hdX0_weigh : yX0_weigh.cls ≠ "java/lang/invoke/MethodHandle" ∧ yX0_weigh.cls ≠ "java/lang/invoke/VarHandle" ∧ (parseMethodDescriptor yX0_weigh.desc).map (fun d => d.parameters.length) = some 2 := by decide +kernel
set_option maxHeartbeats 4000000 in
set_option maxRecDepth 100000 in
theorem c_X0_weigh (l : Launch) (D : va_G) (cI cJ cZ cR : ClassId) (q_this q_this_tenths q_this_leaving q_this_entering : Nat) (v_this_above : Int64) (v_this_below : Int64) (f_this_leaving : Nat → Int64) (f_this_tenths : Nat → Int32) (f_this_entering : Nat → Int64) (p0 : Int32) (p1 : Int32) (P : Int64 → Int64 → (Nat → Int64) → (Nat → Int64) → Prop) (hw : wp_X0_weigh p0 p1 v_this_above v_this_below f_this_leaving f_this_tenths f_this_entering P) : kM l yX0_weigh cX0_weigh 9 none { frames := 3, cells := 0, slots := 0, locals := 70 } D (kTy cI cJ cZ cR) [.ref q_this, .int p0, .int p1] [ob q_this 0 [.ref q_this_tenths, .ref q_this_leaving, .ref q_this_entering, .long v_this_above, .long v_this_below], aJ cJ q_this_leaving 7 f_this_leaving, aI cI q_this_tenths 6 f_this_tenths, aJ cJ q_this_entering 7 f_this_entering] (kQv4 D (kTy cI cJ cZ cR) P (fun y0 y1 y2 y3 => [ob q_this 0 [.ref q_this_tenths, .ref q_this_leaving, .ref q_this_entering, .long y0, .long y1], aJ cJ q_this_leaving 7 y2, aI cI q_this_tenths 6 f_this_tenths, aJ cJ q_this_entering 7 y3])) 0 0 := by
  refine kM.of (by decide) (Nat.le_of_ble_eq_true rfl) ?_
  intro p e s m args below meth c A ls hx hb hr ht hown hlocks hml hN hin hA hK hP hD hS hl
  replace hl : lv_has ls 9 [(0, .ref q_this), (1, .int p0), (2, .int p1)] := hl
  obtain ⟨H, hH⟩ : ∃ H : Heap, H = s.heap := ⟨_, rfl⟩
  obtain ⟨locs, hlc⟩ : ∃ L : List Loc, L = [] := ⟨_, rfl⟩
  replace hP : va_P D kCl [ob q_this 0 [.ref q_this_tenths, .ref q_this_leaving, .ref q_this_entering, .long v_this_above, .long v_this_below], aJ cJ q_this_leaving 7 f_this_leaving, aI cI q_this_tenths 6 f_this_tenths, aJ cJ q_this_entering 7 f_this_entering] H := by rw [hH]; exact hP
  replace hS : va_S A s.heap H locs := by rw [hH, hlc]; exact hS
  replace hD : va_D A [ob q_this 0 [.ref q_this_tenths, .ref q_this_leaving, .ref q_this_entering, .long v_this_above, .long v_this_below], aJ cJ q_this_leaving 7 f_this_leaving, aI cI q_this_tenths 6 f_this_tenths, aJ cJ q_this_entering 7 f_this_entering] := hD
  rw [show W p l e _ s m args below meth c s.heap [] 0 0 _ _ = W p l e _ s m args below meth c H locs 0 0 _ _ from by rw [hH, hlc]]
  unfold wp_X0_weigh at hw
  refine lv_aload_n hx hb dX0_weigh_0 rfl (lv_at hl 0 rfl) ?_
  refine lv_iload_n hx hb dX0_weigh_1 rfl (lv_at hl 1 rfl) ?_
  refine lv_aload_n hx hb dX0_weigh_2 rfl (lv_at hl 0 rfl) ?_
  refine va_get (D := D) (ci := 0) (v := .ref q_this_leaving) (C := RX0) (T := TX0) (N := 5) hx hb ht inX0 hown hK hP 0 rfl rfl 1 (by decide) (ht _ mw_196) (fun _ h9 => h9) rfl dX0_weigh_3 ?_
  refine kCl1 (kRV hx hb hml hown ht hN hK hP hD (c_X0_weighOne l D cI cJ cZ cR q_this q_this_tenths q_this_leaving q_this_entering q_this_leaving 7 v_this_above v_this_below f_this_leaving f_this_tenths p0 _ hw) [0, 1, 2] rfl rfl (T := TX0) (N := 5) rfl rfl mw_771 mw_773 ms_15 mw_9 mw_774 hdX0_weighOne ⟨Nat.le_of_ble_eq_true rfl, Nat.le_of_ble_eq_true rfl⟩ ⟨rfl, rfl⟩ hl.1 rfl (Nat.le_of_ble_eq_true rfl) dX0_weigh_6 ⟨Nat.zero_le _, Nat.zero_le _⟩) hP hD hS hA [0, 1, 2] [3] [1, 2, 3, 0] rfl rfl rfl rfl (fun f_1 => [ob q_this 0 [.ref q_this_tenths, .ref q_this_leaving, .ref q_this_entering, .long v_this_above, .long v_this_below], aJ cJ q_this_leaving 7 f_1, aI cI q_this_tenths 6 f_this_tenths, aJ cJ q_this_entering 7 f_this_entering]) (fun _ => rfl) rfl (fun r_2 f_1 H locs hw hP hD hS => ?_)
  refine lv_aload_n hx hb dX0_weigh_9 rfl (lv_at hl 0 rfl) ?_
  refine lv_iload_n hx hb dX0_weigh_10 rfl (lv_at hl 2 rfl) ?_
  refine lv_aload_n hx hb dX0_weigh_11 rfl (lv_at hl 0 rfl) ?_
  refine va_get (D := D) (ci := 0) (v := .ref q_this_entering) (C := RX0) (T := TX0) (N := 5) hx hb ht inX0 hown hK hP 0 rfl rfl 2 (by decide) (ht _ mw_197) (fun _ h9 => h9) rfl dX0_weigh_12 ?_
  refine kCl1 (kRV hx hb hml hown ht hN hK hP hD (c_X0_weighOne l D cI cJ cZ cR q_this q_this_tenths q_this_leaving q_this_entering q_this_entering 7 v_this_above v_this_below f_this_entering f_this_tenths p1 _ hw) [0, 3, 2] rfl rfl (T := TX0) (N := 5) rfl rfl mw_771 mw_773 ms_15 mw_9 mw_774 hdX0_weighOne ⟨Nat.le_of_ble_eq_true rfl, Nat.le_of_ble_eq_true rfl⟩ ⟨rfl, rfl⟩ hl.1 rfl (Nat.le_of_ble_eq_true rfl) dX0_weigh_15 ⟨Nat.zero_le _, Nat.zero_le _⟩) hP hD hS hA [0, 3, 2] [1] [1, 0, 3, 2] rfl rfl rfl rfl (fun f_3 => [ob q_this 0 [.ref q_this_tenths, .ref q_this_leaving, .ref q_this_entering, .long v_this_above, .long v_this_below], aJ cJ q_this_leaving 7 f_1, aI cI q_this_tenths 6 f_this_tenths, aJ cJ q_this_entering 7 f_3]) (fun _ => rfl) rfl (fun r_4 f_3 H locs hw hP hD hS => ?_)
  refine lv_lmul hx hb dX0_weigh_18 ?_
  refine lv_topl (fun x_5 ex_5 => ?_)
  replace hw := hw x_5 ex_5
  refine lv_lstore_n (lv' := [(3, .long x_5), (0, .ref q_this), (1, .int p0), (2, .int p1)]) hx hb dX0_weigh_19 rfl hl (by decide) rfl (fun ls hl => ?_)
  refine lv_lconst (v := (0 : Int64)) hx hb dX0_weigh_20 (by decide) ?_
  refine lv_lstore (lv' := [(5, .long (0 : Int64)), (3, .long x_5), (0, .ref q_this), (1, .int p0), (2, .int p1)]) hx hb dX0_weigh_21 hl (by decide) rfl (fun ls hl => ?_)
  refine lv_iconst (v := (1 : Int32)) hx hb dX0_weigh_23 (by decide) ?_
  refine lv_istore (lv' := [(7, .int (1 : Int32)), (5, .long (0 : Int64)), (3, .long x_5), (0, .ref q_this), (1, .int p0), (2, .int p1)]) hx hb dX0_weigh_24 hl (by decide) rfl (fun ls hl => ?_)
  refine kLoop2 (G := fun (x_6 : Int64) (x_7 : Int32) => ∀ (H : Heap) (locs : List Loc), va_P D kCl [ob q_this 0 [.ref q_this_tenths, .ref q_this_leaving, .ref q_this_entering, .long v_this_above, .long v_this_below], aJ cJ q_this_leaving 7 f_1, aI cI q_this_tenths 6 f_this_tenths, aJ cJ q_this_entering 7 f_3] H → va_D A [ob q_this 0 [.ref q_this_tenths, .ref q_this_leaving, .ref q_this_entering, .long v_this_above, .long v_this_below], aJ cJ q_this_leaving 7 f_1, aI cI q_this_tenths 6 f_this_tenths, aJ cJ q_this_entering 7 f_3] → va_S A s.heap H locs → ∀ ls : Array Slot, lv_has ls 9 [(0, .ref q_this), (3, .long x_5), (5, .long x_6), (7, .int x_7)] → W p l e _ s m args below meth c H locs _ _ _ (F0 m 26 ls [])) hw ?_ H locs hP hD hS ls (lv_sub hl [3, 2, 1, 0] rfl)
  intro x_6 x_7 K26 hK26 hw H locs hP hD hS ls hl
  refine lv_iload hx hb dX0_weigh_26 (lv_at hl 3 rfl) ?_
  refine lv_bipush (v := (6 : Int32)) hx hb dX0_weigh_28 (by decide) ?_
  refine lv_icmp_gt (tgt := 63) hx hb dX0_weigh_30 (by decide) (fun c_8 => ?_) (fun c_8 => ?_)
  · replace hw := hw.1 c_8
    refine lv_lload_n hx hb dX0_weigh_63 rfl (lv_at hl 1 rfl) ?_
    refine lv_lload hx hb dX0_weigh_64 (lv_at hl 2 rfl) ?_
    refine kCl0 (kRS hx hb hml hown ht hN hK hP hD (c_X0_commonDivisor l D cI cJ cZ cR x_5 x_6 _ hw) [] rfl rfl mw_782 mw_783 mw_9 mw_784 hdX0_commonDivisor ⟨Nat.le_of_ble_eq_true rfl, Nat.le_of_ble_eq_true rfl⟩ ⟨rfl, rfl⟩ hl.1 rfl (Nat.le_of_ble_eq_true rfl) dX0_weigh_66 ⟨Nat.zero_le _, Nat.zero_le _⟩) hP hD hS hA [] [0, 1, 2, 3] [0, 1, 2, 3] rfl rfl rfl rfl [ob q_this 0 [.ref q_this_tenths, .ref q_this_leaving, .ref q_this_entering, .long v_this_above, .long v_this_below], aJ cJ q_this_leaving 7 f_1, aI cI q_this_tenths 6 f_this_tenths, aJ cJ q_this_entering 7 f_3] rfl rfl (fun r_9 H locs hw hP hD hS => ?_)
    refine lv_lstore (lv' := [(7, .long r_9), (0, .ref q_this), (3, .long x_5), (5, .long x_6)]) hx hb dX0_weigh_69 hl (by decide) rfl (fun ls hl => ?_)
    refine lv_lload hx hb dX0_weigh_71 (lv_at hl 0 rfl) ?_
    refine lv_lconst (v := (0 : Int64)) hx hb dX0_weigh_73 (by decide) ?_
    refine W.lcmp hx hb dX0_weigh_74 ?_
    refine lv_if_eq (tgt := 95) hx hb dX0_weigh_75 (by decide) (fun c_10 => ?_) (fun c_10 => ?_)
    · replace hw := hw.1 c_10
      exact W.vret hx hb hr (kEv4 hw hP hD hK hS) hS.2.2 dX0_weigh_95
    · replace hw := hw.2 c_10
      refine lv_aload_n hx hb dX0_weigh_78 rfl (lv_at hl 1 rfl) ?_
      refine lv_lload hx hb dX0_weigh_79 (lv_at hl 3 rfl) ?_
      refine lv_lload hx hb dX0_weigh_81 (lv_at hl 0 rfl) ?_
      have h_11 := hw.1
      replace hw := hw.2
      refine lv_ldiv hx hb dX0_weigh_83 h_11 ?_
      refine lv_topl (fun x_12 ex_12 => ?_)
      replace hw := hw x_12 ex_12
      refine va_put (D := D) (ci := 0) (v := .long x_12) (ty := .long) (C := RX0) (T := TX0) (N := 5) hx hb ht inX0 tyX0 tyX0_ok nmX0 hown hK hP hD hS 0 rfl rfl 3 (by decide) (ht _ mw_198) (fun _ h9 => h9) rfl (by decide +kernel) rfl rfl (Nat.le_of_ble_eq_true rfl) dX0_weigh_84 (fun H locs hP hD hS => ?_)
      replace hP : va_P D kCl [ob q_this 0 [.ref q_this_tenths, .ref q_this_leaving, .ref q_this_entering, .long x_12, .long v_this_below], aJ cJ q_this_leaving 7 f_1, aI cI q_this_tenths 6 f_this_tenths, aJ cJ q_this_entering 7 f_3] H := hP
      replace hD : va_D A [ob q_this 0 [.ref q_this_tenths, .ref q_this_leaving, .ref q_this_entering, .long x_12, .long v_this_below], aJ cJ q_this_leaving 7 f_1, aI cI q_this_tenths 6 f_this_tenths, aJ cJ q_this_entering 7 f_3] := hD
      refine lv_aload_n hx hb dX0_weigh_87 rfl (lv_at hl 1 rfl) ?_
      refine lv_lload_n hx hb dX0_weigh_88 rfl (lv_at hl 2 rfl) ?_
      refine lv_lload hx hb dX0_weigh_89 (lv_at hl 0 rfl) ?_
      have h_13 := hw.1
      replace hw := hw.2
      refine lv_ldiv hx hb dX0_weigh_91 h_13 ?_
      refine lv_topl (fun x_14 ex_14 => ?_)
      replace hw := hw x_14 ex_14
      refine va_put (D := D) (ci := 0) (v := .long x_14) (ty := .long) (C := RX0) (T := TX0) (N := 5) hx hb ht inX0 tyX0 tyX0_ok nmX0 hown hK hP hD hS 0 rfl rfl 4 (by decide) (ht _ mw_199) (fun _ h9 => h9) rfl (by decide +kernel) rfl rfl (Nat.le_of_ble_eq_true rfl) dX0_weigh_92 (fun H locs hP hD hS => ?_)
      replace hP : va_P D kCl [ob q_this 0 [.ref q_this_tenths, .ref q_this_leaving, .ref q_this_entering, .long x_12, .long x_14], aJ cJ q_this_leaving 7 f_1, aI cI q_this_tenths 6 f_this_tenths, aJ cJ q_this_entering 7 f_3] H := hP
      replace hD : va_D A [ob q_this 0 [.ref q_this_tenths, .ref q_this_leaving, .ref q_this_entering, .long x_12, .long x_14], aJ cJ q_this_leaving 7 f_1, aI cI q_this_tenths 6 f_this_tenths, aJ cJ q_this_entering 7 f_3] := hD
      exact W.vret hx hb hr (kEv4 hw hP hD hK hS) hS.2.2 dX0_weigh_95
  · replace hw := hw.2 c_8
    refine lv_lload hx hb dX0_weigh_33 (lv_at hl 2 rfl) ?_
    refine lv_aload_n hx hb dX0_weigh_35 rfl (lv_at hl 0 rfl) ?_
    refine va_get (D := D) (ci := 0) (v := .ref q_this_leaving) (C := RX0) (T := TX0) (N := 5) hx hb ht inX0 hown hK hP 0 rfl rfl 1 (by decide) (ht _ mw_196) (fun _ h9 => h9) rfl dX0_weigh_36 ?_
    refine lv_iload hx hb dX0_weigh_39 (lv_at hl 3 rfl) ?_
    refine kCl0 (kRSN hx hb hml hown ht hN hK hP hD (c_X10_at_ l D cI cJ cZ cR q_this_leaving 7 f_1 x_7 _ hw) [1] rfl rfl mn_780 mw_720 mw_1 mw_721 hdX10_at_ ⟨Nat.le_of_ble_eq_true rfl, Nat.le_of_ble_eq_true rfl⟩ ⟨rfl, rfl⟩ hl.1 rfl (Nat.le_of_ble_eq_true rfl) dX0_weigh_41 ⟨Nat.zero_le _, Nat.zero_le _⟩) hP hD hS hA [1] [0, 2, 3] [0, 3, 1, 2] rfl rfl rfl rfl [ob q_this 0 [.ref q_this_tenths, .ref q_this_leaving, .ref q_this_entering, .long v_this_above, .long v_this_below], aJ cJ q_this_leaving 7 f_1, aI cI q_this_tenths 6 f_this_tenths, aJ cJ q_this_entering 7 f_3] rfl rfl (fun r_15 H locs hw hP hD hS => ?_)
    refine lv_aload_n hx hb dX0_weigh_44 rfl (lv_at hl 0 rfl) ?_
    refine va_get (D := D) (ci := 0) (v := .ref q_this_entering) (C := RX0) (T := TX0) (N := 5) hx hb ht inX0 hown hK hP 0 rfl rfl 2 (by decide) (ht _ mw_197) (fun _ h9 => h9) rfl dX0_weigh_45 ?_
    refine lv_iload hx hb dX0_weigh_48 (lv_at hl 3 rfl) ?_
    refine kCl0 (kRSN hx hb hml hown ht hN hK hP hD (c_X10_at_ l D cI cJ cZ cR q_this_entering 7 f_3 x_7 _ hw) [3] rfl rfl mn_780 mw_720 mw_1 mw_721 hdX10_at_ ⟨Nat.le_of_ble_eq_true rfl, Nat.le_of_ble_eq_true rfl⟩ ⟨rfl, rfl⟩ hl.1 rfl (Nat.le_of_ble_eq_true rfl) dX0_weigh_50 ⟨Nat.zero_le _, Nat.zero_le _⟩) hP hD hS hA [3] [0, 1, 2] [0, 1, 2, 3] rfl rfl rfl rfl [ob q_this 0 [.ref q_this_tenths, .ref q_this_leaving, .ref q_this_entering, .long v_this_above, .long v_this_below], aJ cJ q_this_leaving 7 f_1, aI cI q_this_tenths 6 f_this_tenths, aJ cJ q_this_entering 7 f_3] rfl rfl (fun r_16 H locs hw hP hD hS => ?_)
    refine lv_lmul hx hb dX0_weigh_53 ?_
    refine lv_ladd hx hb dX0_weigh_54 ?_
    refine lv_topl (fun x_17 ex_17 => ?_)
    replace hw := hw x_17 ex_17
    refine lv_lstore (lv' := [(5, .long x_17), (0, .ref q_this), (3, .long x_5), (7, .int x_7)]) hx hb dX0_weigh_55 hl (by decide) rfl (fun ls hl => ?_)
    obtain ⟨x_18, ex_18⟩ : ∃ y : Int32, y = x_7 + (1 : Int32) := ⟨_, rfl⟩
    replace hw := hw x_18 ex_18
    refine lv_iinc (v := x_18) (lv' := [(7, .int x_18), (5, .long x_17), (0, .ref q_this), (3, .long x_5)]) hx hb dX0_weigh_57 hl (k := 3) rfl (by rw [ex_18]; rfl) (by decide) rfl (fun ls hl => ?_)
    refine lv_goto (tgt := 26) hx hb dX0_weigh_60 (by decide) ?_
    exact hK26 _ _ hw H locs hP hD hS ls (lv_sub hl [2, 3, 1, 0] rfl)
def wp_X1_nextSet (p0 : Int32) (p1 : Int32) (P : Int32 → Prop) : Prop :=
  P ((p0 - p1) &&& p1)
theorem hdX1_nextSet : yX1_nextSet.cls ≠ "java/lang/invoke/MethodHandle" ∧ yX1_nextSet.cls ≠ "java/lang/invoke/VarHandle" ∧ (parseMethodDescriptor yX1_nextSet.desc).map (fun d => d.parameters.length) = some 2 := by decide +kernel
set_option maxHeartbeats 4000000 in
set_option maxRecDepth 100000 in
theorem c_X1_nextSet (l : Launch) (D : va_G) (cI cJ cZ cR : ClassId) (p0 : Int32) (p1 : Int32) (P : Int32 → Prop) (hw : wp_X1_nextSet p0 p1 P) : kM l yX1_nextSet cX1_nextSet 2 (some .int) { frames := 0, cells := 0, slots := 0, locals := 0 } D (kTy cI cJ cZ cR) [.int p0, .int p1] [] (kQi0 D (kTy cI cJ cZ cR) P []) 0 0 := by
  refine kM.of (by decide) (Nat.le_of_ble_eq_true rfl) ?_
  intro p e s m args below meth c A ls hx hb hr ht hown hlocks hml hN hin hA hK hP hD hS hl
  replace hl : lv_has ls 2 [(0, .int p0), (1, .int p1)] := hl
  obtain ⟨H, hH⟩ : ∃ H : Heap, H = s.heap := ⟨_, rfl⟩
  obtain ⟨locs, hlc⟩ : ∃ L : List Loc, L = [] := ⟨_, rfl⟩
  replace hP : va_P D kCl [] H := by rw [hH]; exact hP
  replace hS : va_S A s.heap H locs := by rw [hH, hlc]; exact hS
  replace hD : va_D A [] := hD
  rw [show W p l e _ s m args below meth c s.heap [] 0 0 _ _ = W p l e _ s m args below meth c H locs 0 0 _ _ from by rw [hH, hlc]]
  unfold wp_X1_nextSet at hw
  refine lv_iload_n hx hb dX1_nextSet_0 rfl (lv_at hl 0 rfl) ?_
  refine lv_iload_n hx hb dX1_nextSet_1 rfl (lv_at hl 1 rfl) ?_
  refine lv_isub hx hb dX1_nextSet_2 ?_
  refine lv_iload_n hx hb dX1_nextSet_3 rfl (lv_at hl 1 rfl) ?_
  refine lv_iand hx hb dX1_nextSet_4 ?_
  exact W.iret (v := ((p0 - p1) &&& p1)) hx hb hr (kEi0 hw hP hD hK hS) hS.2.2 dX1_nextSet_5
def wp_X1_begin (p0 : Int32) (p1 : Int32) (P : Int32 → Int32 → Int32 → Int32 → Prop) : Prop :=
  ((¬ p1 = 0 → (wp_X1_nextSet (0 : Int32) p0 (fun r_2 => P p0 p1 r_2 (0 : Int32)))) ∧ (p1 = 0 → P p0 p1 (0 : Int32) (0 : Int32)))
theorem hdX1_begin : yX1_begin.cls ≠ "java/lang/invoke/MethodHandle" ∧ yX1_begin.cls ≠ "java/lang/invoke/VarHandle" ∧ (parseMethodDescriptor yX1_begin.desc).map (fun d => d.parameters.length) = some 2 := by decide +kernel
set_option maxHeartbeats 4000000 in
set_option maxRecDepth 100000 in
theorem c_X1_begin (l : Launch) (D : va_G) (cI cJ cZ cR : ClassId) (q_this : Nat) (v_this_mayLeave : Int32) (v_this_mayEnter : Int32) (v_this_out : Int32) (v_this_in : Int32) (p0 : Int32) (p1 : Int32) (P : Int32 → Int32 → Int32 → Int32 → Prop) (hw : wp_X1_begin p0 p1 P) : kM l yX1_begin cX1_begin 3 none { frames := 1, cells := 0, slots := 0, locals := 21 } D (kTy cI cJ cZ cR) [.ref q_this, .int p0, .int p1] [ob q_this 1 [.int v_this_mayLeave, .int v_this_mayEnter, .int v_this_out, .int v_this_in]] (kQv4 D (kTy cI cJ cZ cR) P (fun y0 y1 y2 y3 => [ob q_this 1 [.int y0, .int y1, .int y2, .int y3]])) 0 0 := by
  refine kM.of (by decide) (Nat.le_of_ble_eq_true rfl) ?_
  intro p e s m args below meth c A ls hx hb hr ht hown hlocks hml hN hin hA hK hP hD hS hl
  replace hl : lv_has ls 3 [(0, .ref q_this), (1, .int p0), (2, .int p1)] := hl
  obtain ⟨H, hH⟩ : ∃ H : Heap, H = s.heap := ⟨_, rfl⟩
  obtain ⟨locs, hlc⟩ : ∃ L : List Loc, L = [] := ⟨_, rfl⟩
  replace hP : va_P D kCl [ob q_this 1 [.int v_this_mayLeave, .int v_this_mayEnter, .int v_this_out, .int v_this_in]] H := by rw [hH]; exact hP
  replace hS : va_S A s.heap H locs := by rw [hH, hlc]; exact hS
  replace hD : va_D A [ob q_this 1 [.int v_this_mayLeave, .int v_this_mayEnter, .int v_this_out, .int v_this_in]] := hD
  rw [show W p l e _ s m args below meth c s.heap [] 0 0 _ _ = W p l e _ s m args below meth c H locs 0 0 _ _ from by rw [hH, hlc]]
  unfold wp_X1_begin at hw
  refine lv_aload_n hx hb dX1_begin_0 rfl (lv_at hl 0 rfl) ?_
  refine lv_iload_n hx hb dX1_begin_1 rfl (lv_at hl 1 rfl) ?_
  refine va_put (D := D) (ci := 1) (v := .int p0) (ty := .int) (C := RX1) (T := TX1) (N := 4) hx hb ht inX1 tyX1 tyX1_ok nmX1 hown hK hP hD hS 0 rfl rfl 0 (by decide) (ht _ mw_118) (fun _ h9 => h9) rfl (by decide +kernel) rfl rfl (Nat.le_of_ble_eq_true rfl) dX1_begin_2 (fun H locs hP hD hS => ?_)
  replace hP : va_P D kCl [ob q_this 1 [.int p0, .int v_this_mayEnter, .int v_this_out, .int v_this_in]] H := hP
  replace hD : va_D A [ob q_this 1 [.int p0, .int v_this_mayEnter, .int v_this_out, .int v_this_in]] := hD
  refine lv_aload_n hx hb dX1_begin_5 rfl (lv_at hl 0 rfl) ?_
  refine lv_iload_n hx hb dX1_begin_6 rfl (lv_at hl 2 rfl) ?_
  refine va_put (D := D) (ci := 1) (v := .int p1) (ty := .int) (C := RX1) (T := TX1) (N := 4) hx hb ht inX1 tyX1 tyX1_ok nmX1 hown hK hP hD hS 0 rfl rfl 1 (by decide) (ht _ mw_119) (fun _ h9 => h9) rfl (by decide +kernel) rfl rfl (Nat.le_of_ble_eq_true rfl) dX1_begin_7 (fun H locs hP hD hS => ?_)
  replace hP : va_P D kCl [ob q_this 1 [.int p0, .int p1, .int v_this_out, .int v_this_in]] H := hP
  replace hD : va_D A [ob q_this 1 [.int p0, .int p1, .int v_this_out, .int v_this_in]] := hD
  refine lv_aload_n hx hb dX1_begin_10 rfl (lv_at hl 0 rfl) ?_
  refine lv_iload_n hx hb dX1_begin_11 rfl (lv_at hl 2 rfl) ?_
  refine lv_if_ne (tgt := 19) hx hb dX1_begin_12 (by decide) (fun c_1 => ?_) (fun c_1 => ?_)
  · replace hw := hw.1 c_1
    refine lv_iconst (v := (0 : Int32)) hx hb dX1_begin_19 (by decide) ?_
    refine lv_iload_n hx hb dX1_begin_20 rfl (lv_at hl 1 rfl) ?_
    refine kCi0 (kRS hx hb hml hown ht hN hK hP hD (c_X1_nextSet l D cI cJ cZ cR (0 : Int32) p0 _ hw) [] rfl rfl mw_495 mw_496 mw_7 mw_497 hdX1_nextSet ⟨Nat.le_of_ble_eq_true rfl, Nat.le_of_ble_eq_true rfl⟩ ⟨rfl, rfl⟩ hl.1 rfl (Nat.le_of_ble_eq_true rfl) dX1_begin_21 ⟨Nat.zero_le _, Nat.zero_le _⟩) hP hD hS hA [] [0] [0] rfl rfl rfl rfl [ob q_this 1 [.int p0, .int p1, .int v_this_out, .int v_this_in]] rfl rfl (fun r_2 H locs hw hP hD hS => ?_)
    refine va_put (D := D) (ci := 1) (v := .int r_2) (ty := .int) (C := RX1) (T := TX1) (N := 4) hx hb ht inX1 tyX1 tyX1_ok nmX1 hown hK hP hD hS 0 rfl rfl 2 (by decide) (ht _ mw_120) (fun _ h9 => h9) rfl (by decide +kernel) rfl rfl (Nat.le_of_ble_eq_true rfl) dX1_begin_24 (fun H locs hP hD hS => ?_)
    replace hP : va_P D kCl [ob q_this 1 [.int p0, .int p1, .int r_2, .int v_this_in]] H := hP
    replace hD : va_D A [ob q_this 1 [.int p0, .int p1, .int r_2, .int v_this_in]] := hD
    refine lv_aload_n hx hb dX1_begin_27 rfl (lv_at hl 0 rfl) ?_
    refine lv_iconst (v := (0 : Int32)) hx hb dX1_begin_28 (by decide) ?_
    refine va_put (D := D) (ci := 1) (v := .int (0 : Int32)) (ty := .int) (C := RX1) (T := TX1) (N := 4) hx hb ht inX1 tyX1 tyX1_ok nmX1 hown hK hP hD hS 0 rfl rfl 3 (by decide) (ht _ mw_123) (fun _ h9 => h9) rfl (by decide +kernel) rfl rfl (Nat.le_of_ble_eq_true rfl) dX1_begin_29 (fun H locs hP hD hS => ?_)
    replace hP : va_P D kCl [ob q_this 1 [.int p0, .int p1, .int r_2, .int (0 : Int32)]] H := hP
    replace hD : va_D A [ob q_this 1 [.int p0, .int p1, .int r_2, .int (0 : Int32)]] := hD
    exact W.vret hx hb hr (kEv4 hw hP hD hK hS) hS.2.2 dX1_begin_32
  · replace hw := hw.2 c_1
    refine lv_iconst (v := (0 : Int32)) hx hb dX1_begin_15 (by decide) ?_
    refine lv_goto (tgt := 24) hx hb dX1_begin_16 (by decide) ?_
    refine va_put (D := D) (ci := 1) (v := .int (0 : Int32)) (ty := .int) (C := RX1) (T := TX1) (N := 4) hx hb ht inX1 tyX1 tyX1_ok nmX1 hown hK hP hD hS 0 rfl rfl 2 (by decide) (ht _ mw_120) (fun _ h9 => h9) rfl (by decide +kernel) rfl rfl (Nat.le_of_ble_eq_true rfl) dX1_begin_24 (fun H locs hP hD hS => ?_)
    replace hP : va_P D kCl [ob q_this 1 [.int p0, .int p1, .int (0 : Int32), .int v_this_in]] H := hP
    replace hD : va_D A [ob q_this 1 [.int p0, .int p1, .int (0 : Int32), .int v_this_in]] := hD
    refine lv_aload_n hx hb dX1_begin_27 rfl (lv_at hl 0 rfl) ?_
    refine lv_iconst (v := (0 : Int32)) hx hb dX1_begin_28 (by decide) ?_
    refine va_put (D := D) (ci := 1) (v := .int (0 : Int32)) (ty := .int) (C := RX1) (T := TX1) (N := 4) hx hb ht inX1 tyX1 tyX1_ok nmX1 hown hK hP hD hS 0 rfl rfl 3 (by decide) (ht _ mw_123) (fun _ h9 => h9) rfl (by decide +kernel) rfl rfl (Nat.le_of_ble_eq_true rfl) dX1_begin_29 (fun H locs hP hD hS => ?_)
    replace hP : va_P D kCl [ob q_this 1 [.int p0, .int p1, .int (0 : Int32), .int (0 : Int32)]] H := hP
    replace hD : va_D A [ob q_this 1 [.int p0, .int p1, .int (0 : Int32), .int (0 : Int32)]] := hD
    exact W.vret hx hb hr (kEv4 hw hP hD hK hS) hS.2.2 dX1_begin_32
def wp_J6_bitCount_0f7a4 (p0 : Int32) (P : Int32 → Prop) : Prop :=
  (∀ x_1 : Int32, x_1 = (p0 - (((p0.toUInt32 >>> ((1 : Int32).toUInt32 &&& Int32.toUInt32 31)).toInt32) &&& (1431655765 : Int32))) → (∀ x_2 : Int32, x_2 = ((x_1 &&& (858993459 : Int32)) + (((x_1.toUInt32 >>> ((2 : Int32).toUInt32 &&& Int32.toUInt32 31)).toInt32) &&& (858993459 : Int32))) → (∀ x_3 : Int32, x_3 = ((x_2 + ((x_2.toUInt32 >>> ((4 : Int32).toUInt32 &&& Int32.toUInt32 31)).toInt32)) &&& (252645135 : Int32)) → (∀ x_4 : Int32, x_4 = (x_3 + ((x_3.toUInt32 >>> ((8 : Int32).toUInt32 &&& Int32.toUInt32 31)).toInt32)) → (∀ x_5 : Int32, x_5 = (x_4 + ((x_4.toUInt32 >>> ((16 : Int32).toUInt32 &&& Int32.toUInt32 31)).toInt32)) → P (x_5 &&& (63 : Int32)))))))
theorem hdJ6_bitCount_0f7a4 : yJ6_bitCount_0f7a4.cls ≠ "java/lang/invoke/MethodHandle" ∧ yJ6_bitCount_0f7a4.cls ≠ "java/lang/invoke/VarHandle" ∧ (parseMethodDescriptor yJ6_bitCount_0f7a4.desc).map (fun d => d.parameters.length) = some 1 := by decide +kernel
set_option maxHeartbeats 4000000 in
set_option maxRecDepth 100000 in
theorem c_J6_bitCount_0f7a4 (l : Launch) (D : va_G) (cI cJ cZ cR : ClassId) (p0 : Int32) (P : Int32 → Prop) (hw : wp_J6_bitCount_0f7a4 p0 P) : kM l yJ6_bitCount_0f7a4 cJ6_bitCount_0f7a4 1 (some .int) { frames := 0, cells := 0, slots := 0, locals := 0 } D (kTy cI cJ cZ cR) [.int p0] [] (kQi0 D (kTy cI cJ cZ cR) P []) 0 0 := by
  refine kM.of (by decide) (Nat.le_of_ble_eq_true rfl) ?_
  intro p e s m args below meth c A ls hx hb hr ht hown hlocks hml hN hin hA hK hP hD hS hl
  replace hl : lv_has ls 1 [(0, .int p0)] := hl
  obtain ⟨H, hH⟩ : ∃ H : Heap, H = s.heap := ⟨_, rfl⟩
  obtain ⟨locs, hlc⟩ : ∃ L : List Loc, L = [] := ⟨_, rfl⟩
  replace hP : va_P D kCl [] H := by rw [hH]; exact hP
  replace hS : va_S A s.heap H locs := by rw [hH, hlc]; exact hS
  replace hD : va_D A [] := hD
  rw [show W p l e _ s m args below meth c s.heap [] 0 0 _ _ = W p l e _ s m args below meth c H locs 0 0 _ _ from by rw [hH, hlc]]
  unfold wp_J6_bitCount_0f7a4 at hw
  refine lv_iload_n hx hb dJ6_bitCount_0f7a4_0 rfl (lv_at hl 0 rfl) ?_
  refine lv_iload_n hx hb dJ6_bitCount_0f7a4_1 rfl (lv_at hl 0 rfl) ?_
  refine lv_iconst (v := (1 : Int32)) hx hb dJ6_bitCount_0f7a4_2 (by decide) ?_
  refine lv_iushr (v := (p0.toUInt32 >>> ((1 : Int32).toUInt32 &&& Int32.toUInt32 31)).toInt32) hx hb dJ6_bitCount_0f7a4_3 rfl ?_
  refine lv_ldcw hx hb hown (ht _ mw_397) dJ6_bitCount_0f7a4_4 ?_
  refine lv_iand hx hb dJ6_bitCount_0f7a4_7 ?_
  refine lv_isub hx hb dJ6_bitCount_0f7a4_8 ?_
  refine lv_topi (fun x_1 ex_1 => ?_)
  replace hw := hw x_1 ex_1
  refine lv_istore_n (lv' := [(0, .int x_1)]) hx hb dJ6_bitCount_0f7a4_9 rfl hl (by decide) rfl (fun ls hl => ?_)
  refine lv_iload_n hx hb dJ6_bitCount_0f7a4_10 rfl (lv_at hl 0 rfl) ?_
  refine lv_ldcw hx hb hown (ht _ mw_398) dJ6_bitCount_0f7a4_11 ?_
  refine lv_iand hx hb dJ6_bitCount_0f7a4_14 ?_
  refine lv_iload_n hx hb dJ6_bitCount_0f7a4_15 rfl (lv_at hl 0 rfl) ?_
  refine lv_iconst (v := (2 : Int32)) hx hb dJ6_bitCount_0f7a4_16 (by decide) ?_
  refine lv_iushr (v := (x_1.toUInt32 >>> ((2 : Int32).toUInt32 &&& Int32.toUInt32 31)).toInt32) hx hb dJ6_bitCount_0f7a4_17 rfl ?_
  refine lv_ldcw hx hb hown (ht _ mw_398) dJ6_bitCount_0f7a4_18 ?_
  refine lv_iand hx hb dJ6_bitCount_0f7a4_21 ?_
  refine lv_iadd hx hb dJ6_bitCount_0f7a4_22 ?_
  refine lv_topi (fun x_2 ex_2 => ?_)
  replace hw := hw x_2 ex_2
  refine lv_istore_n (lv' := [(0, .int x_2)]) hx hb dJ6_bitCount_0f7a4_23 rfl hl (by decide) rfl (fun ls hl => ?_)
  refine lv_iload_n hx hb dJ6_bitCount_0f7a4_24 rfl (lv_at hl 0 rfl) ?_
  refine lv_iload_n hx hb dJ6_bitCount_0f7a4_25 rfl (lv_at hl 0 rfl) ?_
  refine lv_iconst (v := (4 : Int32)) hx hb dJ6_bitCount_0f7a4_26 (by decide) ?_
  refine lv_iushr (v := (x_2.toUInt32 >>> ((4 : Int32).toUInt32 &&& Int32.toUInt32 31)).toInt32) hx hb dJ6_bitCount_0f7a4_27 rfl ?_
  refine lv_iadd hx hb dJ6_bitCount_0f7a4_28 ?_
  refine lv_ldcw hx hb hown (ht _ mw_399) dJ6_bitCount_0f7a4_29 ?_
  refine lv_iand hx hb dJ6_bitCount_0f7a4_32 ?_
  refine lv_topi (fun x_3 ex_3 => ?_)
  replace hw := hw x_3 ex_3
  refine lv_istore_n (lv' := [(0, .int x_3)]) hx hb dJ6_bitCount_0f7a4_33 rfl hl (by decide) rfl (fun ls hl => ?_)
  refine lv_iload_n hx hb dJ6_bitCount_0f7a4_34 rfl (lv_at hl 0 rfl) ?_
  refine lv_iload_n hx hb dJ6_bitCount_0f7a4_35 rfl (lv_at hl 0 rfl) ?_
  refine lv_bipush (v := (8 : Int32)) hx hb dJ6_bitCount_0f7a4_36 (by decide) ?_
  refine lv_iushr (v := (x_3.toUInt32 >>> ((8 : Int32).toUInt32 &&& Int32.toUInt32 31)).toInt32) hx hb dJ6_bitCount_0f7a4_38 rfl ?_
  refine lv_iadd hx hb dJ6_bitCount_0f7a4_39 ?_
  refine lv_topi (fun x_4 ex_4 => ?_)
  replace hw := hw x_4 ex_4
  refine lv_istore_n (lv' := [(0, .int x_4)]) hx hb dJ6_bitCount_0f7a4_40 rfl hl (by decide) rfl (fun ls hl => ?_)
  refine lv_iload_n hx hb dJ6_bitCount_0f7a4_41 rfl (lv_at hl 0 rfl) ?_
  refine lv_iload_n hx hb dJ6_bitCount_0f7a4_42 rfl (lv_at hl 0 rfl) ?_
  refine lv_bipush (v := (16 : Int32)) hx hb dJ6_bitCount_0f7a4_43 (by decide) ?_
  refine lv_iushr (v := (x_4.toUInt32 >>> ((16 : Int32).toUInt32 &&& Int32.toUInt32 31)).toInt32) hx hb dJ6_bitCount_0f7a4_45 rfl ?_
  refine lv_iadd hx hb dJ6_bitCount_0f7a4_46 ?_
  refine lv_topi (fun x_5 ex_5 => ?_)
  replace hw := hw x_5 ex_5
  refine lv_istore_n (lv' := [(0, .int x_5)]) hx hb dJ6_bitCount_0f7a4_47 rfl hl (by decide) rfl (fun ls hl => ?_)
  refine lv_iload_n hx hb dJ6_bitCount_0f7a4_48 rfl (lv_at hl 0 rfl) ?_
  refine lv_bipush (v := (63 : Int32)) hx hb dJ6_bitCount_0f7a4_49 (by decide) ?_
  refine lv_iand hx hb dJ6_bitCount_0f7a4_51 ?_
  exact W.iret (v := (x_5 &&& (63 : Int32))) hx hb hr (kEi0 hw hP hD hK hS) hS.2.2 dJ6_bitCount_0f7a4_52
def wp_X1_next (v_this_mayLeave : Int32) (v_this_mayEnter : Int32) (v_this_out : Int32) (v_this_in : Int32) (P : Int32 → Int32 → Int32 → Prop) : Prop :=
  (kl3 (fun (x_1 : Int32) (v_2 : Int32) (v_3 : Int32) K2 => (((64 : Int32) ≤ x_1 → P (0 : Int32) v_2 v_3) ∧ (¬ (64 : Int32) ≤ x_1 → ((v_2 = 0 → P (0 : Int32) v_2 v_3) ∧ (¬ v_2 = 0 → (wp_X1_nextSet v_3 v_this_mayEnter (fun r_6 => ((¬ r_6 = 0 → (wp_J6_bitCount_0f7a4 r_6 (fun r_8 => (wp_J6_bitCount_0f7a4 v_2 (fun r_9 => ((¬ r_8 = r_9 → (∀ x_11 : Int32, x_11 = x_1 + (1 : Int32) → K2 x_11 v_2 r_6)) ∧ (r_8 = r_9 → P (1 : Int32) v_2 r_6))))))) ∧ (r_6 = 0 → (wp_X1_nextSet v_2 v_this_mayLeave (fun r_12 => (∀ x_13 : Int32, x_13 = x_1 + (1 : Int32) → K2 x_13 r_12 r_6)))))))))))) (0 : Int32) v_this_out v_this_in)
theorem hdX1_next : yX1_next.cls ≠ "java/lang/invoke/MethodHandle" ∧ yX1_next.cls ≠ "java/lang/invoke/VarHandle" ∧ (parseMethodDescriptor yX1_next.desc).map (fun d => d.parameters.length) = some 0 := by decide +kernel
set_option maxHeartbeats 4000000 in
set_option maxRecDepth 100000 in
theorem c_X1_next (l : Launch) (D : va_G) (cI cJ cZ cR : ClassId) (q_this : Nat) (v_this_mayLeave : Int32) (v_this_mayEnter : Int32) (v_this_out : Int32) (v_this_in : Int32) (P : Int32 → Int32 → Int32 → Prop) (hw : wp_X1_next v_this_mayLeave v_this_mayEnter v_this_out v_this_in P) : kM l yX1_next cX1_next 2 (some .boolean) { frames := 1, cells := 0, slots := 0, locals := 21 } D (kTy cI cJ cZ cR) [.ref q_this] [ob q_this 1 [.int v_this_mayLeave, .int v_this_mayEnter, .int v_this_out, .int v_this_in]] (kQi2 D (kTy cI cJ cZ cR) P (fun y0 y1 => [ob q_this 1 [.int v_this_mayLeave, .int v_this_mayEnter, .int y0, .int y1]])) 0 0 := by
  refine kM.of (by decide) (Nat.le_of_ble_eq_true rfl) ?_
  intro p e s m args below meth c A ls hx hb hr ht hown hlocks hml hN hin hA hK hP hD hS hl
  replace hl : lv_has ls 2 [(0, .ref q_this)] := hl
  obtain ⟨H, hH⟩ : ∃ H : Heap, H = s.heap := ⟨_, rfl⟩
  obtain ⟨locs, hlc⟩ : ∃ L : List Loc, L = [] := ⟨_, rfl⟩
  replace hP : va_P D kCl [ob q_this 1 [.int v_this_mayLeave, .int v_this_mayEnter, .int v_this_out, .int v_this_in]] H := by rw [hH]; exact hP
  replace hS : va_S A s.heap H locs := by rw [hH, hlc]; exact hS
  replace hD : va_D A [ob q_this 1 [.int v_this_mayLeave, .int v_this_mayEnter, .int v_this_out, .int v_this_in]] := hD
  rw [show W p l e _ s m args below meth c s.heap [] 0 0 _ _ = W p l e _ s m args below meth c H locs 0 0 _ _ from by rw [hH, hlc]]
  unfold wp_X1_next at hw
  refine lv_iconst (v := (0 : Int32)) hx hb dX1_next_0 (by decide) ?_
  refine lv_istore_n (lv' := [(1, .int (0 : Int32)), (0, .ref q_this)]) hx hb dX1_next_1 rfl hl (by decide) rfl (fun ls hl => ?_)
  refine kLoop3 (G := fun (x_1 : Int32) (v_2 : Int32) (v_3 : Int32) => ∀ (H : Heap) (locs : List Loc), va_P D kCl [ob q_this 1 [.int v_this_mayLeave, .int v_this_mayEnter, .int v_2, .int v_3]] H → va_D A [ob q_this 1 [.int v_this_mayLeave, .int v_this_mayEnter, .int v_2, .int v_3]] → va_S A s.heap H locs → ∀ ls : Array Slot, lv_has ls 2 [(0, .ref q_this), (1, .int x_1)] → W p l e _ s m args below meth c H locs _ _ _ (F0 m 2 ls [])) hw ?_ H locs hP hD hS ls (lv_sub hl [1, 0] rfl)
  intro x_1 v_2 v_3 K2 hK2 hw H locs hP hD hS ls hl
  refine lv_iload_n hx hb dX1_next_2 rfl (lv_at hl 1 rfl) ?_
  refine lv_bipush (v := (64 : Int32)) hx hb dX1_next_3 (by decide) ?_
  refine lv_icmp_ge (tgt := 80) hx hb dX1_next_5 (by decide) (fun c_4 => ?_) (fun c_4 => ?_)
  · replace hw := hw.1 c_4
    refine lv_iconst (v := (0 : Int32)) hx hb dX1_next_80 (by decide) ?_
    exact W.zret (v := (0 : Int32)) (ty := .boolean) hx hb hr rfl (kEi2 hw hP hD hK hS) hS.2.2 dX1_next_81
  · replace hw := hw.2 c_4
    refine lv_aload_n hx hb dX1_next_8 rfl (lv_at hl 0 rfl) ?_
    refine va_get (D := D) (ci := 1) (v := .int v_2) (C := RX1) (T := TX1) (N := 4) hx hb ht inX1 hown hK hP 0 rfl rfl 2 (by decide) (ht _ mw_120) (fun _ h9 => h9) rfl dX1_next_9 ?_
    refine lv_if_eq (tgt := 80) hx hb dX1_next_12 (by decide) (fun c_5 => ?_) (fun c_5 => ?_)
    · replace hw := hw.1 c_5
      refine lv_iconst (v := (0 : Int32)) hx hb dX1_next_80 (by decide) ?_
      exact W.zret (v := (0 : Int32)) (ty := .boolean) hx hb hr rfl (kEi2 hw hP hD hK hS) hS.2.2 dX1_next_81
    · replace hw := hw.2 c_5
      refine lv_aload_n hx hb dX1_next_15 rfl (lv_at hl 0 rfl) ?_
      refine lv_aload_n hx hb dX1_next_16 rfl (lv_at hl 0 rfl) ?_
      refine va_get (D := D) (ci := 1) (v := .int v_3) (C := RX1) (T := TX1) (N := 4) hx hb ht inX1 hown hK hP 0 rfl rfl 3 (by decide) (ht _ mw_123) (fun _ h9 => h9) rfl dX1_next_17 ?_
      refine lv_aload_n hx hb dX1_next_20 rfl (lv_at hl 0 rfl) ?_
      refine va_get (D := D) (ci := 1) (v := .int v_this_mayEnter) (C := RX1) (T := TX1) (N := 4) hx hb ht inX1 hown hK hP 0 rfl rfl 1 (by decide) (ht _ mw_119) (fun _ h9 => h9) rfl dX1_next_21 ?_
      refine kCi0 (kRS hx hb hml hown ht hN hK hP hD (c_X1_nextSet l D cI cJ cZ cR v_3 v_this_mayEnter _ hw) [] rfl rfl mw_495 mw_496 mw_7 mw_497 hdX1_nextSet ⟨Nat.le_of_ble_eq_true rfl, Nat.le_of_ble_eq_true rfl⟩ ⟨rfl, rfl⟩ hl.1 rfl (Nat.le_of_ble_eq_true rfl) dX1_next_24 ⟨Nat.zero_le _, Nat.zero_le _⟩) hP hD hS hA [] [0] [0] rfl rfl rfl rfl [ob q_this 1 [.int v_this_mayLeave, .int v_this_mayEnter, .int v_2, .int v_3]] rfl rfl (fun r_6 H locs hw hP hD hS => ?_)
      refine va_put (D := D) (ci := 1) (v := .int r_6) (ty := .int) (C := RX1) (T := TX1) (N := 4) hx hb ht inX1 tyX1 tyX1_ok nmX1 hown hK hP hD hS 0 rfl rfl 3 (by decide) (ht _ mw_123) (fun _ h9 => h9) rfl (by decide +kernel) rfl rfl (Nat.le_of_ble_eq_true rfl) dX1_next_27 (fun H locs hP hD hS => ?_)
      replace hP : va_P D kCl [ob q_this 1 [.int v_this_mayLeave, .int v_this_mayEnter, .int v_2, .int r_6]] H := hP
      replace hD : va_D A [ob q_this 1 [.int v_this_mayLeave, .int v_this_mayEnter, .int v_2, .int r_6]] := hD
      refine lv_aload_n hx hb dX1_next_30 rfl (lv_at hl 0 rfl) ?_
      refine va_get (D := D) (ci := 1) (v := .int r_6) (C := RX1) (T := TX1) (N := 4) hx hb ht inX1 hown hK hP 0 rfl rfl 3 (by decide) (ht _ mw_123) (fun _ h9 => h9) rfl dX1_next_31 ?_
      refine lv_if_ne (tgt := 55) hx hb dX1_next_34 (by decide) (fun c_7 => ?_) (fun c_7 => ?_)
      · replace hw := hw.1 c_7
        refine lv_aload_n hx hb dX1_next_55 rfl (lv_at hl 0 rfl) ?_
        refine va_get (D := D) (ci := 1) (v := .int r_6) (C := RX1) (T := TX1) (N := 4) hx hb ht inX1 hown hK hP 0 rfl rfl 3 (by decide) (ht _ mw_123) (fun _ h9 => h9) rfl dX1_next_56 ?_
        refine kCi0 (kRS hx hb hml hown ht hN hK hP hD (c_J6_bitCount_0f7a4 l D cI cJ cZ cR r_6 _ hw) [] rfl rfl mw_502 mw_395 mw_15 mw_396 hdJ6_bitCount_0f7a4 ⟨Nat.le_of_ble_eq_true rfl, Nat.le_of_ble_eq_true rfl⟩ ⟨rfl, rfl⟩ hl.1 rfl (Nat.le_of_ble_eq_true rfl) dX1_next_59 ⟨Nat.zero_le _, Nat.zero_le _⟩) hP hD hS hA [] [0] [0] rfl rfl rfl rfl [ob q_this 1 [.int v_this_mayLeave, .int v_this_mayEnter, .int v_2, .int r_6]] rfl rfl (fun r_8 H locs hw hP hD hS => ?_)
        refine lv_aload_n hx hb dX1_next_62 rfl (lv_at hl 0 rfl) ?_
        refine va_get (D := D) (ci := 1) (v := .int v_2) (C := RX1) (T := TX1) (N := 4) hx hb ht inX1 hown hK hP 0 rfl rfl 2 (by decide) (ht _ mw_120) (fun _ h9 => h9) rfl dX1_next_63 ?_
        refine kCi0 (kRS hx hb hml hown ht hN hK hP hD (c_J6_bitCount_0f7a4 l D cI cJ cZ cR v_2 _ hw) [] rfl rfl mw_502 mw_395 mw_15 mw_396 hdJ6_bitCount_0f7a4 ⟨Nat.le_of_ble_eq_true rfl, Nat.le_of_ble_eq_true rfl⟩ ⟨rfl, rfl⟩ hl.1 rfl (Nat.le_of_ble_eq_true rfl) dX1_next_66 ⟨Nat.zero_le _, Nat.zero_le _⟩) hP hD hS hA [] [0] [0] rfl rfl rfl rfl [ob q_this 1 [.int v_this_mayLeave, .int v_this_mayEnter, .int v_2, .int r_6]] rfl rfl (fun r_9 H locs hw hP hD hS => ?_)
        refine lv_icmp_ne (tgt := 74) hx hb dX1_next_69 (by decide) (fun c_10 => ?_) (fun c_10 => ?_)
        · replace hw := hw.1 c_10
          obtain ⟨x_11, ex_11⟩ : ∃ y : Int32, y = x_1 + (1 : Int32) := ⟨_, rfl⟩
          replace hw := hw x_11 ex_11
          refine lv_iinc (v := x_11) (lv' := [(1, .int x_11), (0, .ref q_this)]) hx hb dX1_next_74 hl (k := 1) rfl (by rw [ex_11]; rfl) (by decide) rfl (fun ls hl => ?_)
          refine lv_goto (tgt := 2) hx hb dX1_next_77 (by decide) ?_
          exact hK2 _ _ _ hw H locs hP hD hS ls (lv_sub hl [1, 0] rfl)
        · replace hw := hw.2 c_10
          refine lv_iconst (v := (1 : Int32)) hx hb dX1_next_72 (by decide) ?_
          exact W.zret (v := (1 : Int32)) (ty := .boolean) hx hb hr rfl (kEi2 hw hP hD hK hS) hS.2.2 dX1_next_73
      · replace hw := hw.2 c_7
        refine lv_aload_n hx hb dX1_next_37 rfl (lv_at hl 0 rfl) ?_
        refine lv_aload_n hx hb dX1_next_38 rfl (lv_at hl 0 rfl) ?_
        refine va_get (D := D) (ci := 1) (v := .int v_2) (C := RX1) (T := TX1) (N := 4) hx hb ht inX1 hown hK hP 0 rfl rfl 2 (by decide) (ht _ mw_120) (fun _ h9 => h9) rfl dX1_next_39 ?_
        refine lv_aload_n hx hb dX1_next_42 rfl (lv_at hl 0 rfl) ?_
        refine va_get (D := D) (ci := 1) (v := .int v_this_mayLeave) (C := RX1) (T := TX1) (N := 4) hx hb ht inX1 hown hK hP 0 rfl rfl 0 (by decide) (ht _ mw_118) (fun _ h9 => h9) rfl dX1_next_43 ?_
        refine kCi0 (kRS hx hb hml hown ht hN hK hP hD (c_X1_nextSet l D cI cJ cZ cR v_2 v_this_mayLeave _ hw) [] rfl rfl mw_495 mw_496 mw_7 mw_497 hdX1_nextSet ⟨Nat.le_of_ble_eq_true rfl, Nat.le_of_ble_eq_true rfl⟩ ⟨rfl, rfl⟩ hl.1 rfl (Nat.le_of_ble_eq_true rfl) dX1_next_46 ⟨Nat.zero_le _, Nat.zero_le _⟩) hP hD hS hA [] [0] [0] rfl rfl rfl rfl [ob q_this 1 [.int v_this_mayLeave, .int v_this_mayEnter, .int v_2, .int r_6]] rfl rfl (fun r_12 H locs hw hP hD hS => ?_)
        refine va_put (D := D) (ci := 1) (v := .int r_12) (ty := .int) (C := RX1) (T := TX1) (N := 4) hx hb ht inX1 tyX1 tyX1_ok nmX1 hown hK hP hD hS 0 rfl rfl 2 (by decide) (ht _ mw_120) (fun _ h9 => h9) rfl (by decide +kernel) rfl rfl (Nat.le_of_ble_eq_true rfl) dX1_next_49 (fun H locs hP hD hS => ?_)
        replace hP : va_P D kCl [ob q_this 1 [.int v_this_mayLeave, .int v_this_mayEnter, .int r_12, .int r_6]] H := hP
        replace hD : va_D A [ob q_this 1 [.int v_this_mayLeave, .int v_this_mayEnter, .int r_12, .int r_6]] := hD
        refine lv_goto (tgt := 74) hx hb dX1_next_52 (by decide) ?_
        obtain ⟨x_13, ex_13⟩ : ∃ y : Int32, y = x_1 + (1 : Int32) := ⟨_, rfl⟩
        replace hw := hw x_13 ex_13
        refine lv_iinc (v := x_13) (lv' := [(1, .int x_13), (0, .ref q_this)]) hx hb dX1_next_74 hl (k := 1) rfl (by rw [ex_13]; rfl) (by decide) rfl (fun ls hl => ?_)
        refine lv_goto (tgt := 2) hx hb dX1_next_77 (by decide) ?_
        exact hK2 _ _ _ hw H locs hP hD hS ls (lv_sub hl [1, 0] rfl)
def wp_X2_of (p0 : Int32) (p1 : Int32) (p2 : Int32) (P : Int32 → Prop) : Prop :=
  P (((p0 <<< ((12 : Int32) &&& 31)) ||| (p1 <<< ((6 : Int32) &&& 31))) ||| p2)
theorem hdX2_of : yX2_of.cls ≠ "java/lang/invoke/MethodHandle" ∧ yX2_of.cls ≠ "java/lang/invoke/VarHandle" ∧ (parseMethodDescriptor yX2_of.desc).map (fun d => d.parameters.length) = some 3 := by decide +kernel
set_option maxHeartbeats 4000000 in
set_option maxRecDepth 100000 in
theorem c_X2_of (l : Launch) (D : va_G) (cI cJ cZ cR : ClassId) (p0 : Int32) (p1 : Int32) (p2 : Int32) (P : Int32 → Prop) (hw : wp_X2_of p0 p1 p2 P) : kM l yX2_of cX2_of 3 (some .int) { frames := 0, cells := 0, slots := 0, locals := 0 } D (kTy cI cJ cZ cR) [.int p0, .int p1, .int p2] [] (kQi0 D (kTy cI cJ cZ cR) P []) 0 0 := by
  refine kM.of (by decide) (Nat.le_of_ble_eq_true rfl) ?_
  intro p e s m args below meth c A ls hx hb hr ht hown hlocks hml hN hin hA hK hP hD hS hl
  replace hl : lv_has ls 3 [(0, .int p0), (1, .int p1), (2, .int p2)] := hl
  obtain ⟨H, hH⟩ : ∃ H : Heap, H = s.heap := ⟨_, rfl⟩
  obtain ⟨locs, hlc⟩ : ∃ L : List Loc, L = [] := ⟨_, rfl⟩
  replace hP : va_P D kCl [] H := by rw [hH]; exact hP
  replace hS : va_S A s.heap H locs := by rw [hH, hlc]; exact hS
  replace hD : va_D A [] := hD
  rw [show W p l e _ s m args below meth c s.heap [] 0 0 _ _ = W p l e _ s m args below meth c H locs 0 0 _ _ from by rw [hH, hlc]]
  unfold wp_X2_of at hw
  refine lv_iload_n hx hb dX2_of_0 rfl (lv_at hl 0 rfl) ?_
  refine lv_bipush (v := (12 : Int32)) hx hb dX2_of_1 (by decide) ?_
  refine lv_ishl hx hb dX2_of_3 ?_
  refine lv_iload_n hx hb dX2_of_4 rfl (lv_at hl 1 rfl) ?_
  refine lv_bipush (v := (6 : Int32)) hx hb dX2_of_5 (by decide) ?_
  refine lv_ishl hx hb dX2_of_7 ?_
  refine lv_ior hx hb dX2_of_8 ?_
  refine lv_iload_n hx hb dX2_of_9 rfl (lv_at hl 2 rfl) ?_
  refine lv_ior hx hb dX2_of_10 ?_
  exact W.iret (v := (((p0 <<< ((12 : Int32) &&& 31)) ||| (p1 <<< ((6 : Int32) &&& 31))) ||| p2)) hx hb hr (kEi0 hw hP hD hK hS) hS.2.2 dX2_of_11
def wp_X2_tells (p0 : Int32) (P : Int32 → Prop) : Prop :=
  ((p0 < 0 → P (0 : Int32)) ∧ (¬ p0 < 0 → (((2 : Int32) < p0 → P (0 : Int32)) ∧ (¬ (2 : Int32) < p0 → P (1 : Int32)))))
theorem hdX2_tells : yX2_tells.cls ≠ "java/lang/invoke/MethodHandle" ∧ yX2_tells.cls ≠ "java/lang/invoke/VarHandle" ∧ (parseMethodDescriptor yX2_tells.desc).map (fun d => d.parameters.length) = some 1 := by decide +kernel
set_option maxHeartbeats 4000000 in
set_option maxRecDepth 100000 in
theorem c_X2_tells (l : Launch) (D : va_G) (cI cJ cZ cR : ClassId) (p0 : Int32) (P : Int32 → Prop) (hw : wp_X2_tells p0 P) : kM l yX2_tells cX2_tells 1 (some .boolean) { frames := 0, cells := 0, slots := 0, locals := 0 } D (kTy cI cJ cZ cR) [.int p0] [] (kQi0 D (kTy cI cJ cZ cR) P []) 0 0 := by
  refine kM.of (by decide) (Nat.le_of_ble_eq_true rfl) ?_
  intro p e s m args below meth c A ls hx hb hr ht hown hlocks hml hN hin hA hK hP hD hS hl
  replace hl : lv_has ls 1 [(0, .int p0)] := hl
  obtain ⟨H, hH⟩ : ∃ H : Heap, H = s.heap := ⟨_, rfl⟩
  obtain ⟨locs, hlc⟩ : ∃ L : List Loc, L = [] := ⟨_, rfl⟩
  replace hP : va_P D kCl [] H := by rw [hH]; exact hP
  replace hS : va_S A s.heap H locs := by rw [hH, hlc]; exact hS
  replace hD : va_D A [] := hD
  rw [show W p l e _ s m args below meth c s.heap [] 0 0 _ _ = W p l e _ s m args below meth c H locs 0 0 _ _ from by rw [hH, hlc]]
  unfold wp_X2_tells at hw
  refine lv_iload_n hx hb dX2_tells_0 rfl (lv_at hl 0 rfl) ?_
  refine lv_if_lt (tgt := 13) hx hb dX2_tells_1 (by decide) (fun c_1 => ?_) (fun c_1 => ?_)
  · replace hw := hw.1 c_1
    refine lv_iconst (v := (0 : Int32)) hx hb dX2_tells_13 (by decide) ?_
    exact W.zret (v := (0 : Int32)) (ty := .boolean) hx hb hr rfl (kEi0 hw hP hD hK hS) hS.2.2 dX2_tells_14
  · replace hw := hw.2 c_1
    refine lv_iload_n hx hb dX2_tells_4 rfl (lv_at hl 0 rfl) ?_
    refine lv_iconst (v := (2 : Int32)) hx hb dX2_tells_5 (by decide) ?_
    refine lv_icmp_gt (tgt := 13) hx hb dX2_tells_6 (by decide) (fun c_2 => ?_) (fun c_2 => ?_)
    · replace hw := hw.1 c_2
      refine lv_iconst (v := (0 : Int32)) hx hb dX2_tells_13 (by decide) ?_
      exact W.zret (v := (0 : Int32)) (ty := .boolean) hx hb hr rfl (kEi0 hw hP hD hK hS) hS.2.2 dX2_tells_14
    · replace hw := hw.2 c_2
      refine lv_iconst (v := (1 : Int32)) hx hb dX2_tells_9 (by decide) ?_
      refine lv_goto (tgt := 14) hx hb dX2_tells_10 (by decide) ?_
      exact W.zret (v := (1 : Int32)) (ty := .boolean) hx hb hr rfl (kEi0 hw hP hD hK hS) hS.2.2 dX2_tells_14
def wp_X2_told (p0 : Int32) (p1 : Int32) (P : Int32 → Prop) : Prop :=
  ((p1 = (0 : Int32) → P (p0 >>> ((12 : Int32) &&& 31))) ∧ (p1 = (1 : Int32) → P ((p0 >>> ((6 : Int32) &&& 31)) &&& (63 : Int32))) ∧ (¬ p1 = (0 : Int32) → ¬ p1 = (1 : Int32) → P (p0 &&& (63 : Int32))))
theorem hdX2_told : yX2_told.cls ≠ "java/lang/invoke/MethodHandle" ∧ yX2_told.cls ≠ "java/lang/invoke/VarHandle" ∧ (parseMethodDescriptor yX2_told.desc).map (fun d => d.parameters.length) = some 2 := by decide +kernel
set_option maxHeartbeats 4000000 in
set_option maxRecDepth 100000 in
theorem c_X2_told (l : Launch) (D : va_G) (cI cJ cZ cR : ClassId) (p0 : Int32) (p1 : Int32) (P : Int32 → Prop) (hw : wp_X2_told p0 p1 P) : kM l yX2_told cX2_told 2 (some .int) { frames := 0, cells := 0, slots := 0, locals := 0 } D (kTy cI cJ cZ cR) [.int p0, .int p1] [] (kQi0 D (kTy cI cJ cZ cR) P []) 0 0 := by
  refine kM.of (by decide) (Nat.le_of_ble_eq_true rfl) ?_
  intro p e s m args below meth c A ls hx hb hr ht hown hlocks hml hN hin hA hK hP hD hS hl
  replace hl : lv_has ls 2 [(0, .int p0), (1, .int p1)] := hl
  obtain ⟨H, hH⟩ : ∃ H : Heap, H = s.heap := ⟨_, rfl⟩
  obtain ⟨locs, hlc⟩ : ∃ L : List Loc, L = [] := ⟨_, rfl⟩
  replace hP : va_P D kCl [] H := by rw [hH]; exact hP
  replace hS : va_S A s.heap H locs := by rw [hH, hlc]; exact hS
  replace hD : va_D A [] := hD
  rw [show W p l e _ s m args below meth c s.heap [] 0 0 _ _ = W p l e _ s m args below meth c H locs 0 0 _ _ from by rw [hH, hlc]]
  unfold wp_X2_told at hw
  refine lv_iload_n hx hb dX2_told_0 rfl (lv_at hl 1 rfl) ?_
  by_cases c_1 : p1 = (0 : Int32)
  · replace hw := hw.1 c_1
    refine lv_lookup (off := 27) (tgt := 28) hx hb dX2_told_1 (by decide) (by rw [c_1]; rfl) (by decide) ?_
    refine lv_iload_n hx hb dX2_told_28 rfl (lv_at hl 0 rfl) ?_
    refine lv_bipush (v := (12 : Int32)) hx hb dX2_told_29 (by decide) ?_
    refine lv_ishr hx hb dX2_told_31 ?_
    exact W.iret (v := (p0 >>> ((12 : Int32) &&& 31))) hx hb hr (kEi0 hw hP hD hK hS) hS.2.2 dX2_told_32
  ·
    by_cases c_2 : p1 = (1 : Int32)
    · replace hw := hw.2.1 c_2
      refine lv_lookup (off := 32) (tgt := 33) hx hb dX2_told_1 (by decide) (by rw [c_2]; rfl) (by decide) ?_
      refine lv_iload_n hx hb dX2_told_33 rfl (lv_at hl 0 rfl) ?_
      refine lv_bipush (v := (6 : Int32)) hx hb dX2_told_34 (by decide) ?_
      refine lv_ishr hx hb dX2_told_36 ?_
      refine lv_bipush (v := (63 : Int32)) hx hb dX2_told_37 (by decide) ?_
      refine lv_iand hx hb dX2_told_39 ?_
      exact W.iret (v := ((p0 >>> ((6 : Int32) &&& 31)) &&& (63 : Int32))) hx hb hr (kEi0 hw hP hD hK hS) hS.2.2 dX2_told_40
    ·
      replace hw := hw.2.2 c_1 c_2
      refine lv_lookup (off := 40) (tgt := 41) hx hb dX2_told_1 (by decide) ((lv_osw c_1 (by decide)).trans ((lv_osw c_2 (by decide)).trans (rfl))) (by decide) ?_
      refine lv_iload_n hx hb dX2_told_41 rfl (lv_at hl 0 rfl) ?_
      refine lv_bipush (v := (63 : Int32)) hx hb dX2_told_42 (by decide) ?_
      refine lv_iand hx hb dX2_told_44 ?_
      exact W.iret (v := (p0 &&& (63 : Int32))) hx hb hr (kEi0 hw hP hD hK hS) hS.2.2 dX2_told_45
def wp_X2_floorOf (p0 : Int32) (P : Int32 → Prop) : Prop :=
  (wp_X2_told p0 (0 : Int32) (fun r_1 => P r_1))
theorem hdX2_floorOf : yX2_floorOf.cls ≠ "java/lang/invoke/MethodHandle" ∧ yX2_floorOf.cls ≠ "java/lang/invoke/VarHandle" ∧ (parseMethodDescriptor yX2_floorOf.desc).map (fun d => d.parameters.length) = some 1 := by decide +kernel
set_option maxHeartbeats 4000000 in
set_option maxRecDepth 100000 in
theorem c_X2_floorOf (l : Launch) (D : va_G) (cI cJ cZ cR : ClassId) (p0 : Int32) (P : Int32 → Prop) (hw : wp_X2_floorOf p0 P) : kM l yX2_floorOf cX2_floorOf 1 (some .int) { frames := 1, cells := 0, slots := 0, locals := 21 } D (kTy cI cJ cZ cR) [.int p0] [] (kQi0 D (kTy cI cJ cZ cR) P []) 0 0 := by
  refine kM.of (by decide) (Nat.le_of_ble_eq_true rfl) ?_
  intro p e s m args below meth c A ls hx hb hr ht hown hlocks hml hN hin hA hK hP hD hS hl
  replace hl : lv_has ls 1 [(0, .int p0)] := hl
  obtain ⟨H, hH⟩ : ∃ H : Heap, H = s.heap := ⟨_, rfl⟩
  obtain ⟨locs, hlc⟩ : ∃ L : List Loc, L = [] := ⟨_, rfl⟩
  replace hP : va_P D kCl [] H := by rw [hH]; exact hP
  replace hS : va_S A s.heap H locs := by rw [hH, hlc]; exact hS
  replace hD : va_D A [] := hD
  rw [show W p l e _ s m args below meth c s.heap [] 0 0 _ _ = W p l e _ s m args below meth c H locs 0 0 _ _ from by rw [hH, hlc]]
  unfold wp_X2_floorOf at hw
  refine lv_iload_n hx hb dX2_floorOf_0 rfl (lv_at hl 0 rfl) ?_
  refine lv_iconst (v := (0 : Int32)) hx hb dX2_floorOf_1 (by decide) ?_
  refine kCi0 (kRS hx hb hml hown ht hN hK hP hD (c_X2_told l D cI cJ cZ cR p0 (0 : Int32) _ hw) [] rfl rfl mw_415 mw_416 mw_16 mw_417 hdX2_told ⟨Nat.le_of_ble_eq_true rfl, Nat.le_of_ble_eq_true rfl⟩ ⟨rfl, rfl⟩ hl.1 rfl (Nat.le_of_ble_eq_true rfl) dX2_floorOf_2 ⟨Nat.zero_le _, Nat.zero_le _⟩) hP hD hS hA [] [] [] rfl rfl rfl rfl [] rfl rfl (fun r_1 H locs hw hP hD hS => ?_)
  exact W.iret (v := r_1) hx hb hr (kEi0 hw hP hD hK hS) hS.2.2 dX2_floorOf_5
def wp_X3_empty (p0 : Int32) (f_this_wantAt : Nat → Int32) (f_this_standAt : Nat → Int32) (P : Int32 → Int32 → Int32 → (Nat → Int32) → (Nat → Int32) → Prop) : Prop :=
  (wp_J7_fill_53178 (0 : Int32) 6 f_this_wantAt (fun f_1 => (wp_J7_fill_53178 (0 : Int32) 6 f_this_standAt (fun f_2 => P p0 (0 : Int32) (0 : Int32) f_1 f_2))))
theorem hdX3_empty : yX3_empty.cls ≠ "java/lang/invoke/MethodHandle" ∧ yX3_empty.cls ≠ "java/lang/invoke/VarHandle" ∧ (parseMethodDescriptor yX3_empty.desc).map (fun d => d.parameters.length) = some 1 := by decide +kernel
set_option maxHeartbeats 4000000 in
set_option maxRecDepth 100000 in
theorem c_X3_empty (l : Launch) (D : va_G) (cI cJ cZ cR : ClassId) (q_this q_this_wants q_this_stands q_this_wantAt q_this_standAt : Nat) (v_this_floors : Int32) (v_this_riders : Int32) (v_this_strangers : Int32) (f_this_wantAt : Nat → Int32) (f_this_standAt : Nat → Int32) (p0 : Int32) (P : Int32 → Int32 → Int32 → (Nat → Int32) → (Nat → Int32) → Prop) (hw : wp_X3_empty p0 f_this_wantAt f_this_standAt P) : kM l yX3_empty cX3_empty 2 none { frames := 1, cells := 0, slots := 0, locals := 23 } D (kTy cI cJ cZ cR) [.ref q_this, .int p0] [ob q_this 2 [.int v_this_floors, .int v_this_riders, .int v_this_strangers, .ref q_this_wants, .ref q_this_stands, .ref q_this_wantAt, .ref q_this_standAt], aI cI q_this_wantAt 6 f_this_wantAt, aI cI q_this_standAt 6 f_this_standAt] (kQv5 D (kTy cI cJ cZ cR) P (fun y0 y1 y2 y3 y4 => [ob q_this 2 [.int y0, .int y1, .int y2, .ref q_this_wants, .ref q_this_stands, .ref q_this_wantAt, .ref q_this_standAt], aI cI q_this_wantAt 6 y3, aI cI q_this_standAt 6 y4])) 0 0 := by
  refine kM.of (by decide) (Nat.le_of_ble_eq_true rfl) ?_
  intro p e s m args below meth c A ls hx hb hr ht hown hlocks hml hN hin hA hK hP hD hS hl
  replace hl : lv_has ls 2 [(0, .ref q_this), (1, .int p0)] := hl
  obtain ⟨H, hH⟩ : ∃ H : Heap, H = s.heap := ⟨_, rfl⟩
  obtain ⟨locs, hlc⟩ : ∃ L : List Loc, L = [] := ⟨_, rfl⟩
  replace hP : va_P D kCl [ob q_this 2 [.int v_this_floors, .int v_this_riders, .int v_this_strangers, .ref q_this_wants, .ref q_this_stands, .ref q_this_wantAt, .ref q_this_standAt], aI cI q_this_wantAt 6 f_this_wantAt, aI cI q_this_standAt 6 f_this_standAt] H := by rw [hH]; exact hP
  replace hS : va_S A s.heap H locs := by rw [hH, hlc]; exact hS
  replace hD : va_D A [ob q_this 2 [.int v_this_floors, .int v_this_riders, .int v_this_strangers, .ref q_this_wants, .ref q_this_stands, .ref q_this_wantAt, .ref q_this_standAt], aI cI q_this_wantAt 6 f_this_wantAt, aI cI q_this_standAt 6 f_this_standAt] := hD
  rw [show W p l e _ s m args below meth c s.heap [] 0 0 _ _ = W p l e _ s m args below meth c H locs 0 0 _ _ from by rw [hH, hlc]]
  unfold wp_X3_empty at hw
  refine lv_aload_n hx hb dX3_empty_0 rfl (lv_at hl 0 rfl) ?_
  refine lv_iload_n hx hb dX3_empty_1 rfl (lv_at hl 1 rfl) ?_
  refine va_put (D := D) (ci := 2) (v := .int p0) (ty := .int) (C := RX3) (T := TX3) (N := 7) hx hb ht inX3 tyX3 tyX3_ok nmX3 hown hK hP hD hS 0 rfl rfl 0 (by decide) (ht _ mw_61) (fun _ h9 => h9) rfl (by decide +kernel) rfl rfl (Nat.le_of_ble_eq_true rfl) dX3_empty_2 (fun H locs hP hD hS => ?_)
  replace hP : va_P D kCl [ob q_this 2 [.int p0, .int v_this_riders, .int v_this_strangers, .ref q_this_wants, .ref q_this_stands, .ref q_this_wantAt, .ref q_this_standAt], aI cI q_this_wantAt 6 f_this_wantAt, aI cI q_this_standAt 6 f_this_standAt] H := hP
  replace hD : va_D A [ob q_this 2 [.int p0, .int v_this_riders, .int v_this_strangers, .ref q_this_wants, .ref q_this_stands, .ref q_this_wantAt, .ref q_this_standAt], aI cI q_this_wantAt 6 f_this_wantAt, aI cI q_this_standAt 6 f_this_standAt] := hD
  refine lv_aload_n hx hb dX3_empty_5 rfl (lv_at hl 0 rfl) ?_
  refine lv_iconst (v := (0 : Int32)) hx hb dX3_empty_6 (by decide) ?_
  refine va_put (D := D) (ci := 2) (v := .int (0 : Int32)) (ty := .int) (C := RX3) (T := TX3) (N := 7) hx hb ht inX3 tyX3 tyX3_ok nmX3 hown hK hP hD hS 0 rfl rfl 1 (by decide) (ht _ mw_64) (fun _ h9 => h9) rfl (by decide +kernel) rfl rfl (Nat.le_of_ble_eq_true rfl) dX3_empty_7 (fun H locs hP hD hS => ?_)
  replace hP : va_P D kCl [ob q_this 2 [.int p0, .int (0 : Int32), .int v_this_strangers, .ref q_this_wants, .ref q_this_stands, .ref q_this_wantAt, .ref q_this_standAt], aI cI q_this_wantAt 6 f_this_wantAt, aI cI q_this_standAt 6 f_this_standAt] H := hP
  replace hD : va_D A [ob q_this 2 [.int p0, .int (0 : Int32), .int v_this_strangers, .ref q_this_wants, .ref q_this_stands, .ref q_this_wantAt, .ref q_this_standAt], aI cI q_this_wantAt 6 f_this_wantAt, aI cI q_this_standAt 6 f_this_standAt] := hD
  refine lv_aload_n hx hb dX3_empty_10 rfl (lv_at hl 0 rfl) ?_
  refine lv_iconst (v := (0 : Int32)) hx hb dX3_empty_11 (by decide) ?_
  refine va_put (D := D) (ci := 2) (v := .int (0 : Int32)) (ty := .int) (C := RX3) (T := TX3) (N := 7) hx hb ht inX3 tyX3 tyX3_ok nmX3 hown hK hP hD hS 0 rfl rfl 2 (by decide) (ht _ mw_67) (fun _ h9 => h9) rfl (by decide +kernel) rfl rfl (Nat.le_of_ble_eq_true rfl) dX3_empty_12 (fun H locs hP hD hS => ?_)
  replace hP : va_P D kCl [ob q_this 2 [.int p0, .int (0 : Int32), .int (0 : Int32), .ref q_this_wants, .ref q_this_stands, .ref q_this_wantAt, .ref q_this_standAt], aI cI q_this_wantAt 6 f_this_wantAt, aI cI q_this_standAt 6 f_this_standAt] H := hP
  replace hD : va_D A [ob q_this 2 [.int p0, .int (0 : Int32), .int (0 : Int32), .ref q_this_wants, .ref q_this_stands, .ref q_this_wantAt, .ref q_this_standAt], aI cI q_this_wantAt 6 f_this_wantAt, aI cI q_this_standAt 6 f_this_standAt] := hD
  refine lv_aload_n hx hb dX3_empty_15 rfl (lv_at hl 0 rfl) ?_
  refine va_get (D := D) (ci := 2) (v := .ref q_this_wantAt) (C := RX3) (T := TX3) (N := 7) hx hb ht inX3 hown hK hP 0 rfl rfl 5 (by decide) (ht _ mw_72) (fun _ h9 => h9) rfl dX3_empty_16 ?_
  refine lv_iconst (v := (0 : Int32)) hx hb dX3_empty_19 (by decide) ?_
  refine kCv1 (kRS hx hb hml hown ht hN hK hP hD (c_J7_fill_53178 l D cI cJ cZ cR q_this_wantAt 6 f_this_wantAt (0 : Int32) _ hw) [1] rfl rfl mw_296 mw_193 mw_10 mw_194 hdJ7_fill_53178 ⟨Nat.le_of_ble_eq_true rfl, Nat.le_of_ble_eq_true rfl⟩ ⟨rfl, rfl⟩ hl.1 rfl (Nat.le_of_ble_eq_true rfl) dX3_empty_20 ⟨Nat.zero_le _, Nat.zero_le _⟩) hP hD hS hA [1] [0, 2] [0, 2, 1] rfl rfl rfl rfl (fun f_1 => [ob q_this 2 [.int p0, .int (0 : Int32), .int (0 : Int32), .ref q_this_wants, .ref q_this_stands, .ref q_this_wantAt, .ref q_this_standAt], aI cI q_this_wantAt 6 f_1, aI cI q_this_standAt 6 f_this_standAt]) (fun _ => rfl) rfl (fun f_1 H locs hw hP hD hS => ?_)
  refine lv_aload_n hx hb dX3_empty_23 rfl (lv_at hl 0 rfl) ?_
  refine va_get (D := D) (ci := 2) (v := .ref q_this_standAt) (C := RX3) (T := TX3) (N := 7) hx hb ht inX3 hown hK hP 0 rfl rfl 6 (by decide) (ht _ mw_73) (fun _ h9 => h9) rfl dX3_empty_24 ?_
  refine lv_iconst (v := (0 : Int32)) hx hb dX3_empty_27 (by decide) ?_
  refine kCv1 (kRS hx hb hml hown ht hN hK hP hD (c_J7_fill_53178 l D cI cJ cZ cR q_this_standAt 6 f_this_standAt (0 : Int32) _ hw) [2] rfl rfl mw_296 mw_193 mw_10 mw_194 hdJ7_fill_53178 ⟨Nat.le_of_ble_eq_true rfl, Nat.le_of_ble_eq_true rfl⟩ ⟨rfl, rfl⟩ hl.1 rfl (Nat.le_of_ble_eq_true rfl) dX3_empty_28 ⟨Nat.zero_le _, Nat.zero_le _⟩) hP hD hS hA [2] [0, 1] [0, 1, 2] rfl rfl rfl rfl (fun f_2 => [ob q_this 2 [.int p0, .int (0 : Int32), .int (0 : Int32), .ref q_this_wants, .ref q_this_stands, .ref q_this_wantAt, .ref q_this_standAt], aI cI q_this_wantAt 6 f_1, aI cI q_this_standAt 6 f_2]) (fun _ => rfl) rfl (fun f_2 H locs hw hP hD hS => ?_)
  exact W.vret hx hb hr (kEv5 hw hP hD hK hS) hS.2.2 dX3_empty_31
def wp_X10_copy (n_p0 : Nat) (n_p1 : Nat) (f_p0 : Nat → Int32) (f_p1 : Nat → Int32) (P : (Nat → Int32) → Prop) : Prop :=
  ((¬ (0 : Int32) < 0 ∧ ¬ (0 : Int32) < 0 ∧ ¬ (if (Int32.ofNat n_p1) < (Int32.ofNat n_p0) then (Int32.ofNat n_p1) else (Int32.ofNat n_p0)) < 0 ∧ (0 : Int32).toNatClampNeg + (if (Int32.ofNat n_p1) < (Int32.ofNat n_p0) then (Int32.ofNat n_p1) else (Int32.ofNat n_p0)).toNatClampNeg ≤ n_p0 ∧ (0 : Int32).toNatClampNeg + (if (Int32.ofNat n_p1) < (Int32.ofNat n_p0) then (Int32.ofNat n_p1) else (Int32.ofNat n_p0)).toNatClampNeg ≤ n_p1) ∧ (∀ f_2 : Nat → Int32, f_2 = (va_cpy f_p0 f_p1 (0 : Int32).toNatClampNeg (0 : Int32).toNatClampNeg (if (Int32.ofNat n_p1) < (Int32.ofNat n_p0) then (Int32.ofNat n_p1) else (Int32.ofNat n_p0)).toNatClampNeg) → P f_2))
theorem hdX10_copy : yX10_copy.cls ≠ "java/lang/invoke/MethodHandle" ∧ yX10_copy.cls ≠ "java/lang/invoke/VarHandle" ∧ (parseMethodDescriptor yX10_copy.desc).map (fun d => d.parameters.length) = some 2 := by decide +kernel
set_option maxHeartbeats 4000000 in
set_option maxRecDepth 100000 in
theorem c_X10_copy (l : Launch) (D : va_G) (cI cJ cZ cR : ClassId) (q_p0 q_p1 : Nat) (n_p0 : Nat) (n_p1 : Nat) (f_p0 : Nat → Int32) (f_p1 : Nat → Int32) (P : (Nat → Int32) → Prop) (hw : wp_X10_copy n_p0 n_p1 f_p0 f_p1 P) : kM l yX10_copy cX10_copy 2 none { frames := 1, cells := 0, slots := 0, locals := 60 } D (kTy cI cJ cZ cR) [.ref q_p0, .ref q_p1] [aI cI q_p0 n_p0 f_p0, aI cI q_p1 n_p1 f_p1] (kQv1 D (kTy cI cJ cZ cR) P (fun y0 => [aI cI q_p0 n_p0 f_p0, aI cI q_p1 n_p1 y0])) 0 0 := by
  refine kM.of (by decide) (Nat.le_of_ble_eq_true rfl) ?_
  intro p e s m args below meth c A ls hx hb hr ht hown hlocks hml hN hin hA hK hP hD hS hl
  replace hl : lv_has ls 2 [(0, .ref q_p0), (1, .ref q_p1)] := hl
  obtain ⟨H, hH⟩ : ∃ H : Heap, H = s.heap := ⟨_, rfl⟩
  obtain ⟨locs, hlc⟩ : ∃ L : List Loc, L = [] := ⟨_, rfl⟩
  replace hP : va_P D kCl [aI cI q_p0 n_p0 f_p0, aI cI q_p1 n_p1 f_p1] H := by rw [hH]; exact hP
  replace hS : va_S A s.heap H locs := by rw [hH, hlc]; exact hS
  replace hD : va_D A [aI cI q_p0 n_p0 f_p0, aI cI q_p1 n_p1 f_p1] := hD
  rw [show W p l e _ s m args below meth c s.heap [] 0 0 _ _ = W p l e _ s m args below meth c H locs 0 0 _ _ from by rw [hH, hlc]]
  unfold wp_X10_copy at hw
  refine lv_aload_n hx hb dX10_copy_0 rfl (lv_at hl 0 rfl) ?_
  refine lv_iconst (v := (0 : Int32)) hx hb dX10_copy_1 (by decide) ?_
  refine lv_aload_n hx hb dX10_copy_2 rfl (lv_at hl 1 rfl) ?_
  refine lv_iconst (v := (0 : Int32)) hx hb dX10_copy_3 (by decide) ?_
  refine lv_aload_n hx hb dX10_copy_4 rfl (lv_at hl 0 rfl) ?_
  refine va_alen hx hb hK hP 0 0 rfl rfl rfl dX10_copy_5 ?_
  refine lv_aload_n hx hb dX10_copy_6 rfl (lv_at hl 1 rfl) ?_
  refine va_alen hx hb hK hP 1 0 rfl rfl rfl dX10_copy_7 ?_
  refine va_mmin hx hb (hml.trans hl.1.symm) hown (ht _ mw_365) (ht _ mw_366) (ht _ mw_13) (ht _ mw_367) (Nat.le_of_ble_eq_true rfl) (Nat.le_of_ble_eq_true rfl) (Nat.zero_le _) (Nat.zero_le _) dX10_copy_8 ?_
  obtain ⟨h_1, hw⟩ := hw
  refine va_copyi hx hb (hml.trans hl.1.symm) hown (ht _ mw_368) (ht _ mw_370) (ht _ mw_369) (ht _ mw_14) hK hP hD hS 0 1 0 0 rfl rfl rfl rfl rfl h_1.1 h_1.2.1 h_1.2.2.1 h_1.2.2.2.1 h_1.2.2.2.2 (fun _ _ => rfl) (Nat.le_of_ble_eq_true rfl) (by decide) dX10_copy_11 (fun H locs hP hD hS => ?_)
  obtain ⟨f_2, ef_2⟩ : ∃ y : Nat → Int32, y = (va_cpy f_p0 f_p1 (0 : Int32).toNatClampNeg (0 : Int32).toNatClampNeg (if (Int32.ofNat n_p1) < (Int32.ofNat n_p0) then (Int32.ofNat n_p1) else (Int32.ofNat n_p0)).toNatClampNeg) := ⟨_, rfl⟩
  replace hw := hw f_2 ef_2
  replace hP : va_P D kCl [aI cI q_p0 n_p0 f_p0, aI cI q_p1 n_p1 f_2] H := by rw [ef_2]; exact hP
  replace hD : va_D A [aI cI q_p0 n_p0 f_p0, aI cI q_p1 n_p1 f_2] := by rw [ef_2]; exact hD
  exact W.vret hx hb hr (kEv1 hw hP hD hK hS) hS.2.2 dX10_copy_14
def wp_X3_copyFrom (v_p0_floors : Int32) (v_p0_riders : Int32) (v_p0_strangers : Int32) (f_p0_wants : Nat → Int32) (f_this_wants : Nat → Int32) (f_p0_stands : Nat → Int32) (f_this_stands : Nat → Int32) (f_p0_wantAt : Nat → Int32) (f_this_wantAt : Nat → Int32) (f_p0_standAt : Nat → Int32) (f_this_standAt : Nat → Int32) (P : Int32 → Int32 → Int32 → (Nat → Int32) → (Nat → Int32) → (Nat → Int32) → (Nat → Int32) → Prop) : Prop :=
  (wp_X10_copy 4 4 f_p0_wants f_this_wants (fun f_1 => (wp_X10_copy 4 4 f_p0_stands f_this_stands (fun f_2 => (wp_X10_copy 6 6 f_p0_wantAt f_this_wantAt (fun f_3 => (wp_X10_copy 6 6 f_p0_standAt f_this_standAt (fun f_4 => P v_p0_floors v_p0_riders v_p0_strangers f_1 f_2 f_3 f_4))))))))
theorem hdX3_copyFrom : yX3_copyFrom.cls ≠ "java/lang/invoke/MethodHandle" ∧ yX3_copyFrom.cls ≠ "java/lang/invoke/VarHandle" ∧ (parseMethodDescriptor yX3_copyFrom.desc).map (fun d => d.parameters.length) = some 1 := by decide +kernel
set_option maxHeartbeats 4000000 in
set_option maxRecDepth 100000 in
theorem c_X3_copyFrom (l : Launch) (D : va_G) (cI cJ cZ cR : ClassId) (q_this q_this_wants q_this_stands q_this_wantAt q_this_standAt q_p0 q_p0_wants q_p0_stands q_p0_wantAt q_p0_standAt : Nat) (v_this_floors : Int32) (v_this_riders : Int32) (v_this_strangers : Int32) (v_p0_floors : Int32) (v_p0_riders : Int32) (v_p0_strangers : Int32) (f_p0_wants : Nat → Int32) (f_this_wants : Nat → Int32) (f_p0_stands : Nat → Int32) (f_this_stands : Nat → Int32) (f_p0_wantAt : Nat → Int32) (f_this_wantAt : Nat → Int32) (f_p0_standAt : Nat → Int32) (f_this_standAt : Nat → Int32) (P : Int32 → Int32 → Int32 → (Nat → Int32) → (Nat → Int32) → (Nat → Int32) → (Nat → Int32) → Prop) (hw : wp_X3_copyFrom v_p0_floors v_p0_riders v_p0_strangers f_p0_wants f_this_wants f_p0_stands f_this_stands f_p0_wantAt f_this_wantAt f_p0_standAt f_this_standAt P) : kM l yX3_copyFrom cX3_copyFrom 2 none { frames := 2, cells := 0, slots := 0, locals := 81 } D (kTy cI cJ cZ cR) [.ref q_this, .ref q_p0] [ob q_this 2 [.int v_this_floors, .int v_this_riders, .int v_this_strangers, .ref q_this_wants, .ref q_this_stands, .ref q_this_wantAt, .ref q_this_standAt], ob q_p0 2 [.int v_p0_floors, .int v_p0_riders, .int v_p0_strangers, .ref q_p0_wants, .ref q_p0_stands, .ref q_p0_wantAt, .ref q_p0_standAt], aI cI q_p0_wants 4 f_p0_wants, aI cI q_this_wants 4 f_this_wants, aI cI q_p0_stands 4 f_p0_stands, aI cI q_this_stands 4 f_this_stands, aI cI q_p0_wantAt 6 f_p0_wantAt, aI cI q_this_wantAt 6 f_this_wantAt, aI cI q_p0_standAt 6 f_p0_standAt, aI cI q_this_standAt 6 f_this_standAt] (kQv7 D (kTy cI cJ cZ cR) P (fun y0 y1 y2 y3 y4 y5 y6 => [ob q_this 2 [.int y0, .int y1, .int y2, .ref q_this_wants, .ref q_this_stands, .ref q_this_wantAt, .ref q_this_standAt], ob q_p0 2 [.int v_p0_floors, .int v_p0_riders, .int v_p0_strangers, .ref q_p0_wants, .ref q_p0_stands, .ref q_p0_wantAt, .ref q_p0_standAt], aI cI q_p0_wants 4 f_p0_wants, aI cI q_this_wants 4 y3, aI cI q_p0_stands 4 f_p0_stands, aI cI q_this_stands 4 y4, aI cI q_p0_wantAt 6 f_p0_wantAt, aI cI q_this_wantAt 6 y5, aI cI q_p0_standAt 6 f_p0_standAt, aI cI q_this_standAt 6 y6])) 0 0 := by
  refine kM.of (by decide) (Nat.le_of_ble_eq_true rfl) ?_
  intro p e s m args below meth c A ls hx hb hr ht hown hlocks hml hN hin hA hK hP hD hS hl
  replace hl : lv_has ls 2 [(0, .ref q_this), (1, .ref q_p0)] := hl
  obtain ⟨H, hH⟩ : ∃ H : Heap, H = s.heap := ⟨_, rfl⟩
  obtain ⟨locs, hlc⟩ : ∃ L : List Loc, L = [] := ⟨_, rfl⟩
  replace hP : va_P D kCl [ob q_this 2 [.int v_this_floors, .int v_this_riders, .int v_this_strangers, .ref q_this_wants, .ref q_this_stands, .ref q_this_wantAt, .ref q_this_standAt], ob q_p0 2 [.int v_p0_floors, .int v_p0_riders, .int v_p0_strangers, .ref q_p0_wants, .ref q_p0_stands, .ref q_p0_wantAt, .ref q_p0_standAt], aI cI q_p0_wants 4 f_p0_wants, aI cI q_this_wants 4 f_this_wants, aI cI q_p0_stands 4 f_p0_stands, aI cI q_this_stands 4 f_this_stands, aI cI q_p0_wantAt 6 f_p0_wantAt, aI cI q_this_wantAt 6 f_this_wantAt, aI cI q_p0_standAt 6 f_p0_standAt, aI cI q_this_standAt 6 f_this_standAt] H := by rw [hH]; exact hP
  replace hS : va_S A s.heap H locs := by rw [hH, hlc]; exact hS
  replace hD : va_D A [ob q_this 2 [.int v_this_floors, .int v_this_riders, .int v_this_strangers, .ref q_this_wants, .ref q_this_stands, .ref q_this_wantAt, .ref q_this_standAt], ob q_p0 2 [.int v_p0_floors, .int v_p0_riders, .int v_p0_strangers, .ref q_p0_wants, .ref q_p0_stands, .ref q_p0_wantAt, .ref q_p0_standAt], aI cI q_p0_wants 4 f_p0_wants, aI cI q_this_wants 4 f_this_wants, aI cI q_p0_stands 4 f_p0_stands, aI cI q_this_stands 4 f_this_stands, aI cI q_p0_wantAt 6 f_p0_wantAt, aI cI q_this_wantAt 6 f_this_wantAt, aI cI q_p0_standAt 6 f_p0_standAt, aI cI q_this_standAt 6 f_this_standAt] := hD
  rw [show W p l e _ s m args below meth c s.heap [] 0 0 _ _ = W p l e _ s m args below meth c H locs 0 0 _ _ from by rw [hH, hlc]]
  unfold wp_X3_copyFrom at hw
  refine lv_aload_n hx hb dX3_copyFrom_0 rfl (lv_at hl 0 rfl) ?_
  refine lv_aload_n hx hb dX3_copyFrom_1 rfl (lv_at hl 1 rfl) ?_
  refine va_get (D := D) (ci := 2) (v := .int v_p0_floors) (C := RX3) (T := TX3) (N := 7) hx hb ht inX3 hown hK hP 1 rfl rfl 0 (by decide) (ht _ mw_61) (fun _ h9 => h9) rfl dX3_copyFrom_2 ?_
  refine va_put (D := D) (ci := 2) (v := .int v_p0_floors) (ty := .int) (C := RX3) (T := TX3) (N := 7) hx hb ht inX3 tyX3 tyX3_ok nmX3 hown hK hP hD hS 0 rfl rfl 0 (by decide) (ht _ mw_61) (fun _ h9 => h9) rfl (by decide +kernel) rfl rfl (Nat.le_of_ble_eq_true rfl) dX3_copyFrom_5 (fun H locs hP hD hS => ?_)
  replace hP : va_P D kCl [ob q_this 2 [.int v_p0_floors, .int v_this_riders, .int v_this_strangers, .ref q_this_wants, .ref q_this_stands, .ref q_this_wantAt, .ref q_this_standAt], ob q_p0 2 [.int v_p0_floors, .int v_p0_riders, .int v_p0_strangers, .ref q_p0_wants, .ref q_p0_stands, .ref q_p0_wantAt, .ref q_p0_standAt], aI cI q_p0_wants 4 f_p0_wants, aI cI q_this_wants 4 f_this_wants, aI cI q_p0_stands 4 f_p0_stands, aI cI q_this_stands 4 f_this_stands, aI cI q_p0_wantAt 6 f_p0_wantAt, aI cI q_this_wantAt 6 f_this_wantAt, aI cI q_p0_standAt 6 f_p0_standAt, aI cI q_this_standAt 6 f_this_standAt] H := hP
  replace hD : va_D A [ob q_this 2 [.int v_p0_floors, .int v_this_riders, .int v_this_strangers, .ref q_this_wants, .ref q_this_stands, .ref q_this_wantAt, .ref q_this_standAt], ob q_p0 2 [.int v_p0_floors, .int v_p0_riders, .int v_p0_strangers, .ref q_p0_wants, .ref q_p0_stands, .ref q_p0_wantAt, .ref q_p0_standAt], aI cI q_p0_wants 4 f_p0_wants, aI cI q_this_wants 4 f_this_wants, aI cI q_p0_stands 4 f_p0_stands, aI cI q_this_stands 4 f_this_stands, aI cI q_p0_wantAt 6 f_p0_wantAt, aI cI q_this_wantAt 6 f_this_wantAt, aI cI q_p0_standAt 6 f_p0_standAt, aI cI q_this_standAt 6 f_this_standAt] := hD
  refine lv_aload_n hx hb dX3_copyFrom_8 rfl (lv_at hl 0 rfl) ?_
  refine lv_aload_n hx hb dX3_copyFrom_9 rfl (lv_at hl 1 rfl) ?_
  refine va_get (D := D) (ci := 2) (v := .int v_p0_riders) (C := RX3) (T := TX3) (N := 7) hx hb ht inX3 hown hK hP 1 rfl rfl 1 (by decide) (ht _ mw_64) (fun _ h9 => h9) rfl dX3_copyFrom_10 ?_
  refine va_put (D := D) (ci := 2) (v := .int v_p0_riders) (ty := .int) (C := RX3) (T := TX3) (N := 7) hx hb ht inX3 tyX3 tyX3_ok nmX3 hown hK hP hD hS 0 rfl rfl 1 (by decide) (ht _ mw_64) (fun _ h9 => h9) rfl (by decide +kernel) rfl rfl (Nat.le_of_ble_eq_true rfl) dX3_copyFrom_13 (fun H locs hP hD hS => ?_)
  replace hP : va_P D kCl [ob q_this 2 [.int v_p0_floors, .int v_p0_riders, .int v_this_strangers, .ref q_this_wants, .ref q_this_stands, .ref q_this_wantAt, .ref q_this_standAt], ob q_p0 2 [.int v_p0_floors, .int v_p0_riders, .int v_p0_strangers, .ref q_p0_wants, .ref q_p0_stands, .ref q_p0_wantAt, .ref q_p0_standAt], aI cI q_p0_wants 4 f_p0_wants, aI cI q_this_wants 4 f_this_wants, aI cI q_p0_stands 4 f_p0_stands, aI cI q_this_stands 4 f_this_stands, aI cI q_p0_wantAt 6 f_p0_wantAt, aI cI q_this_wantAt 6 f_this_wantAt, aI cI q_p0_standAt 6 f_p0_standAt, aI cI q_this_standAt 6 f_this_standAt] H := hP
  replace hD : va_D A [ob q_this 2 [.int v_p0_floors, .int v_p0_riders, .int v_this_strangers, .ref q_this_wants, .ref q_this_stands, .ref q_this_wantAt, .ref q_this_standAt], ob q_p0 2 [.int v_p0_floors, .int v_p0_riders, .int v_p0_strangers, .ref q_p0_wants, .ref q_p0_stands, .ref q_p0_wantAt, .ref q_p0_standAt], aI cI q_p0_wants 4 f_p0_wants, aI cI q_this_wants 4 f_this_wants, aI cI q_p0_stands 4 f_p0_stands, aI cI q_this_stands 4 f_this_stands, aI cI q_p0_wantAt 6 f_p0_wantAt, aI cI q_this_wantAt 6 f_this_wantAt, aI cI q_p0_standAt 6 f_p0_standAt, aI cI q_this_standAt 6 f_this_standAt] := hD
  refine lv_aload_n hx hb dX3_copyFrom_16 rfl (lv_at hl 0 rfl) ?_
  refine lv_aload_n hx hb dX3_copyFrom_17 rfl (lv_at hl 1 rfl) ?_
  refine va_get (D := D) (ci := 2) (v := .int v_p0_strangers) (C := RX3) (T := TX3) (N := 7) hx hb ht inX3 hown hK hP 1 rfl rfl 2 (by decide) (ht _ mw_67) (fun _ h9 => h9) rfl dX3_copyFrom_18 ?_
  refine va_put (D := D) (ci := 2) (v := .int v_p0_strangers) (ty := .int) (C := RX3) (T := TX3) (N := 7) hx hb ht inX3 tyX3 tyX3_ok nmX3 hown hK hP hD hS 0 rfl rfl 2 (by decide) (ht _ mw_67) (fun _ h9 => h9) rfl (by decide +kernel) rfl rfl (Nat.le_of_ble_eq_true rfl) dX3_copyFrom_21 (fun H locs hP hD hS => ?_)
  replace hP : va_P D kCl [ob q_this 2 [.int v_p0_floors, .int v_p0_riders, .int v_p0_strangers, .ref q_this_wants, .ref q_this_stands, .ref q_this_wantAt, .ref q_this_standAt], ob q_p0 2 [.int v_p0_floors, .int v_p0_riders, .int v_p0_strangers, .ref q_p0_wants, .ref q_p0_stands, .ref q_p0_wantAt, .ref q_p0_standAt], aI cI q_p0_wants 4 f_p0_wants, aI cI q_this_wants 4 f_this_wants, aI cI q_p0_stands 4 f_p0_stands, aI cI q_this_stands 4 f_this_stands, aI cI q_p0_wantAt 6 f_p0_wantAt, aI cI q_this_wantAt 6 f_this_wantAt, aI cI q_p0_standAt 6 f_p0_standAt, aI cI q_this_standAt 6 f_this_standAt] H := hP
  replace hD : va_D A [ob q_this 2 [.int v_p0_floors, .int v_p0_riders, .int v_p0_strangers, .ref q_this_wants, .ref q_this_stands, .ref q_this_wantAt, .ref q_this_standAt], ob q_p0 2 [.int v_p0_floors, .int v_p0_riders, .int v_p0_strangers, .ref q_p0_wants, .ref q_p0_stands, .ref q_p0_wantAt, .ref q_p0_standAt], aI cI q_p0_wants 4 f_p0_wants, aI cI q_this_wants 4 f_this_wants, aI cI q_p0_stands 4 f_p0_stands, aI cI q_this_stands 4 f_this_stands, aI cI q_p0_wantAt 6 f_p0_wantAt, aI cI q_this_wantAt 6 f_this_wantAt, aI cI q_p0_standAt 6 f_p0_standAt, aI cI q_this_standAt 6 f_this_standAt] := hD
  refine lv_aload_n hx hb dX3_copyFrom_24 rfl (lv_at hl 1 rfl) ?_
  refine va_get (D := D) (ci := 2) (v := .ref q_p0_wants) (C := RX3) (T := TX3) (N := 7) hx hb ht inX3 hown hK hP 1 rfl rfl 3 (by decide) (ht _ mw_70) (fun _ h9 => h9) rfl dX3_copyFrom_25 ?_
  refine lv_aload_n hx hb dX3_copyFrom_28 rfl (lv_at hl 0 rfl) ?_
  refine va_get (D := D) (ci := 2) (v := .ref q_this_wants) (C := RX3) (T := TX3) (N := 7) hx hb ht inX3 hown hK hP 0 rfl rfl 3 (by decide) (ht _ mw_70) (fun _ h9 => h9) rfl dX3_copyFrom_29 ?_
  refine kCv1 (kRSN hx hb hml hown ht hN hK hP hD (c_X10_copy l D cI cJ cZ cR q_p0_wants q_this_wants 4 4 f_p0_wants f_this_wants _ hw) [2, 3] rfl rfl mn_362 mw_363 mw_1 mw_364 hdX10_copy ⟨Nat.le_of_ble_eq_true rfl, Nat.le_of_ble_eq_true rfl⟩ ⟨rfl, rfl⟩ hl.1 rfl (Nat.le_of_ble_eq_true rfl) dX3_copyFrom_32 ⟨Nat.zero_le _, Nat.zero_le _⟩) hP hD hS hA [2, 3] [0, 1, 4, 5, 6, 7, 8, 9] [0, 1, 8, 9, 2, 3, 4, 5, 6, 7] rfl rfl rfl rfl (fun f_1 => [ob q_this 2 [.int v_p0_floors, .int v_p0_riders, .int v_p0_strangers, .ref q_this_wants, .ref q_this_stands, .ref q_this_wantAt, .ref q_this_standAt], ob q_p0 2 [.int v_p0_floors, .int v_p0_riders, .int v_p0_strangers, .ref q_p0_wants, .ref q_p0_stands, .ref q_p0_wantAt, .ref q_p0_standAt], aI cI q_p0_wants 4 f_p0_wants, aI cI q_this_wants 4 f_1, aI cI q_p0_stands 4 f_p0_stands, aI cI q_this_stands 4 f_this_stands, aI cI q_p0_wantAt 6 f_p0_wantAt, aI cI q_this_wantAt 6 f_this_wantAt, aI cI q_p0_standAt 6 f_p0_standAt, aI cI q_this_standAt 6 f_this_standAt]) (fun _ => rfl) rfl (fun f_1 H locs hw hP hD hS => ?_)
  refine lv_aload_n hx hb dX3_copyFrom_35 rfl (lv_at hl 1 rfl) ?_
  refine va_get (D := D) (ci := 2) (v := .ref q_p0_stands) (C := RX3) (T := TX3) (N := 7) hx hb ht inX3 hown hK hP 1 rfl rfl 4 (by decide) (ht _ mw_71) (fun _ h9 => h9) rfl dX3_copyFrom_36 ?_
  refine lv_aload_n hx hb dX3_copyFrom_39 rfl (lv_at hl 0 rfl) ?_
  refine va_get (D := D) (ci := 2) (v := .ref q_this_stands) (C := RX3) (T := TX3) (N := 7) hx hb ht inX3 hown hK hP 0 rfl rfl 4 (by decide) (ht _ mw_71) (fun _ h9 => h9) rfl dX3_copyFrom_40 ?_
  refine kCv1 (kRSN hx hb hml hown ht hN hK hP hD (c_X10_copy l D cI cJ cZ cR q_p0_stands q_this_stands 4 4 f_p0_stands f_this_stands _ hw) [4, 5] rfl rfl mn_362 mw_363 mw_1 mw_364 hdX10_copy ⟨Nat.le_of_ble_eq_true rfl, Nat.le_of_ble_eq_true rfl⟩ ⟨rfl, rfl⟩ hl.1 rfl (Nat.le_of_ble_eq_true rfl) dX3_copyFrom_43 ⟨Nat.zero_le _, Nat.zero_le _⟩) hP hD hS hA [4, 5] [0, 1, 2, 3, 6, 7, 8, 9] [0, 1, 2, 3, 8, 9, 4, 5, 6, 7] rfl rfl rfl rfl (fun f_2 => [ob q_this 2 [.int v_p0_floors, .int v_p0_riders, .int v_p0_strangers, .ref q_this_wants, .ref q_this_stands, .ref q_this_wantAt, .ref q_this_standAt], ob q_p0 2 [.int v_p0_floors, .int v_p0_riders, .int v_p0_strangers, .ref q_p0_wants, .ref q_p0_stands, .ref q_p0_wantAt, .ref q_p0_standAt], aI cI q_p0_wants 4 f_p0_wants, aI cI q_this_wants 4 f_1, aI cI q_p0_stands 4 f_p0_stands, aI cI q_this_stands 4 f_2, aI cI q_p0_wantAt 6 f_p0_wantAt, aI cI q_this_wantAt 6 f_this_wantAt, aI cI q_p0_standAt 6 f_p0_standAt, aI cI q_this_standAt 6 f_this_standAt]) (fun _ => rfl) rfl (fun f_2 H locs hw hP hD hS => ?_)
  refine lv_aload_n hx hb dX3_copyFrom_46 rfl (lv_at hl 1 rfl) ?_
  refine va_get (D := D) (ci := 2) (v := .ref q_p0_wantAt) (C := RX3) (T := TX3) (N := 7) hx hb ht inX3 hown hK hP 1 rfl rfl 5 (by decide) (ht _ mw_72) (fun _ h9 => h9) rfl dX3_copyFrom_47 ?_
  refine lv_aload_n hx hb dX3_copyFrom_50 rfl (lv_at hl 0 rfl) ?_
  refine va_get (D := D) (ci := 2) (v := .ref q_this_wantAt) (C := RX3) (T := TX3) (N := 7) hx hb ht inX3 hown hK hP 0 rfl rfl 5 (by decide) (ht _ mw_72) (fun _ h9 => h9) rfl dX3_copyFrom_51 ?_
  refine kCv1 (kRSN hx hb hml hown ht hN hK hP hD (c_X10_copy l D cI cJ cZ cR q_p0_wantAt q_this_wantAt 6 6 f_p0_wantAt f_this_wantAt _ hw) [6, 7] rfl rfl mn_362 mw_363 mw_1 mw_364 hdX10_copy ⟨Nat.le_of_ble_eq_true rfl, Nat.le_of_ble_eq_true rfl⟩ ⟨rfl, rfl⟩ hl.1 rfl (Nat.le_of_ble_eq_true rfl) dX3_copyFrom_54 ⟨Nat.zero_le _, Nat.zero_le _⟩) hP hD hS hA [6, 7] [0, 1, 2, 3, 4, 5, 8, 9] [0, 1, 2, 3, 4, 5, 8, 9, 6, 7] rfl rfl rfl rfl (fun f_3 => [ob q_this 2 [.int v_p0_floors, .int v_p0_riders, .int v_p0_strangers, .ref q_this_wants, .ref q_this_stands, .ref q_this_wantAt, .ref q_this_standAt], ob q_p0 2 [.int v_p0_floors, .int v_p0_riders, .int v_p0_strangers, .ref q_p0_wants, .ref q_p0_stands, .ref q_p0_wantAt, .ref q_p0_standAt], aI cI q_p0_wants 4 f_p0_wants, aI cI q_this_wants 4 f_1, aI cI q_p0_stands 4 f_p0_stands, aI cI q_this_stands 4 f_2, aI cI q_p0_wantAt 6 f_p0_wantAt, aI cI q_this_wantAt 6 f_3, aI cI q_p0_standAt 6 f_p0_standAt, aI cI q_this_standAt 6 f_this_standAt]) (fun _ => rfl) rfl (fun f_3 H locs hw hP hD hS => ?_)
  refine lv_aload_n hx hb dX3_copyFrom_57 rfl (lv_at hl 1 rfl) ?_
  refine va_get (D := D) (ci := 2) (v := .ref q_p0_standAt) (C := RX3) (T := TX3) (N := 7) hx hb ht inX3 hown hK hP 1 rfl rfl 6 (by decide) (ht _ mw_73) (fun _ h9 => h9) rfl dX3_copyFrom_58 ?_
  refine lv_aload_n hx hb dX3_copyFrom_61 rfl (lv_at hl 0 rfl) ?_
  refine va_get (D := D) (ci := 2) (v := .ref q_this_standAt) (C := RX3) (T := TX3) (N := 7) hx hb ht inX3 hown hK hP 0 rfl rfl 6 (by decide) (ht _ mw_73) (fun _ h9 => h9) rfl dX3_copyFrom_62 ?_
  refine kCv1 (kRSN hx hb hml hown ht hN hK hP hD (c_X10_copy l D cI cJ cZ cR q_p0_standAt q_this_standAt 6 6 f_p0_standAt f_this_standAt _ hw) [8, 9] rfl rfl mn_362 mw_363 mw_1 mw_364 hdX10_copy ⟨Nat.le_of_ble_eq_true rfl, Nat.le_of_ble_eq_true rfl⟩ ⟨rfl, rfl⟩ hl.1 rfl (Nat.le_of_ble_eq_true rfl) dX3_copyFrom_65 ⟨Nat.zero_le _, Nat.zero_le _⟩) hP hD hS hA [8, 9] [0, 1, 2, 3, 4, 5, 6, 7] [0, 1, 2, 3, 4, 5, 6, 7, 8, 9] rfl rfl rfl rfl (fun f_4 => [ob q_this 2 [.int v_p0_floors, .int v_p0_riders, .int v_p0_strangers, .ref q_this_wants, .ref q_this_stands, .ref q_this_wantAt, .ref q_this_standAt], ob q_p0 2 [.int v_p0_floors, .int v_p0_riders, .int v_p0_strangers, .ref q_p0_wants, .ref q_p0_stands, .ref q_p0_wantAt, .ref q_p0_standAt], aI cI q_p0_wants 4 f_p0_wants, aI cI q_this_wants 4 f_1, aI cI q_p0_stands 4 f_p0_stands, aI cI q_this_stands 4 f_2, aI cI q_p0_wantAt 6 f_p0_wantAt, aI cI q_this_wantAt 6 f_3, aI cI q_p0_standAt 6 f_p0_standAt, aI cI q_this_standAt 6 f_4]) (fun _ => rfl) rfl (fun f_4 H locs hw hP hD hS => ?_)
  exact W.vret hx hb hr (kEv7 hw hP hD hK hS) hS.2.2 dX3_copyFrom_68
def wp_X3_hasRoomForRider (v_this_riders : Int32) (P : Int32 → Prop) : Prop :=
  (((4 : Int32) ≤ v_this_riders → P (0 : Int32)) ∧ (¬ (4 : Int32) ≤ v_this_riders → P (1 : Int32)))
theorem hdX3_hasRoomForRider : yX3_hasRoomForRider.cls ≠ "java/lang/invoke/MethodHandle" ∧ yX3_hasRoomForRider.cls ≠ "java/lang/invoke/VarHandle" ∧ (parseMethodDescriptor yX3_hasRoomForRider.desc).map (fun d => d.parameters.length) = some 0 := by decide +kernel
set_option maxHeartbeats 4000000 in
set_option maxRecDepth 100000 in
theorem c_X3_hasRoomForRider (l : Launch) (D : va_G) (cI cJ cZ cR : ClassId) (q_this q_this_wants q_this_stands q_this_wantAt q_this_standAt : Nat) (v_this_floors : Int32) (v_this_riders : Int32) (v_this_strangers : Int32) (P : Int32 → Prop) (hw : wp_X3_hasRoomForRider v_this_riders P) : kM l yX3_hasRoomForRider cX3_hasRoomForRider 1 (some .boolean) { frames := 0, cells := 0, slots := 0, locals := 0 } D (kTy cI cJ cZ cR) [.ref q_this] [ob q_this 2 [.int v_this_floors, .int v_this_riders, .int v_this_strangers, .ref q_this_wants, .ref q_this_stands, .ref q_this_wantAt, .ref q_this_standAt]] (kQi0 D (kTy cI cJ cZ cR) P [ob q_this 2 [.int v_this_floors, .int v_this_riders, .int v_this_strangers, .ref q_this_wants, .ref q_this_stands, .ref q_this_wantAt, .ref q_this_standAt]]) 0 0 := by
  refine kM.of (by decide) (Nat.le_of_ble_eq_true rfl) ?_
  intro p e s m args below meth c A ls hx hb hr ht hown hlocks hml hN hin hA hK hP hD hS hl
  replace hl : lv_has ls 1 [(0, .ref q_this)] := hl
  obtain ⟨H, hH⟩ : ∃ H : Heap, H = s.heap := ⟨_, rfl⟩
  obtain ⟨locs, hlc⟩ : ∃ L : List Loc, L = [] := ⟨_, rfl⟩
  replace hP : va_P D kCl [ob q_this 2 [.int v_this_floors, .int v_this_riders, .int v_this_strangers, .ref q_this_wants, .ref q_this_stands, .ref q_this_wantAt, .ref q_this_standAt]] H := by rw [hH]; exact hP
  replace hS : va_S A s.heap H locs := by rw [hH, hlc]; exact hS
  replace hD : va_D A [ob q_this 2 [.int v_this_floors, .int v_this_riders, .int v_this_strangers, .ref q_this_wants, .ref q_this_stands, .ref q_this_wantAt, .ref q_this_standAt]] := hD
  rw [show W p l e _ s m args below meth c s.heap [] 0 0 _ _ = W p l e _ s m args below meth c H locs 0 0 _ _ from by rw [hH, hlc]]
  unfold wp_X3_hasRoomForRider at hw
  refine lv_aload_n hx hb dX3_hasRoomForRider_0 rfl (lv_at hl 0 rfl) ?_
  refine va_get (D := D) (ci := 2) (v := .int v_this_riders) (C := RX3) (T := TX3) (N := 7) hx hb ht inX3 hown hK hP 0 rfl rfl 1 (by decide) (ht _ mw_64) (fun _ h9 => h9) rfl dX3_hasRoomForRider_1 ?_
  refine lv_iconst (v := (4 : Int32)) hx hb dX3_hasRoomForRider_4 (by decide) ?_
  refine lv_icmp_ge (tgt := 12) hx hb dX3_hasRoomForRider_5 (by decide) (fun c_1 => ?_) (fun c_1 => ?_)
  · replace hw := hw.1 c_1
    refine lv_iconst (v := (0 : Int32)) hx hb dX3_hasRoomForRider_12 (by decide) ?_
    exact W.zret (v := (0 : Int32)) (ty := .boolean) hx hb hr rfl (kEi0 hw hP hD hK hS) hS.2.2 dX3_hasRoomForRider_13
  · replace hw := hw.2 c_1
    refine lv_iconst (v := (1 : Int32)) hx hb dX3_hasRoomForRider_8 (by decide) ?_
    refine lv_goto (tgt := 13) hx hb dX3_hasRoomForRider_9 (by decide) ?_
    exact W.zret (v := (1 : Int32)) (ty := .boolean) hx hb hr rfl (kEi0 hw hP hD hK hS) hS.2.2 dX3_hasRoomForRider_13
def wp_X3_hasRoomForStranger (v_this_strangers : Int32) (P : Int32 → Prop) : Prop :=
  (((2 : Int32) ≤ v_this_strangers → P (0 : Int32)) ∧ (¬ (2 : Int32) ≤ v_this_strangers → P (1 : Int32)))
theorem hdX3_hasRoomForStranger : yX3_hasRoomForStranger.cls ≠ "java/lang/invoke/MethodHandle" ∧ yX3_hasRoomForStranger.cls ≠ "java/lang/invoke/VarHandle" ∧ (parseMethodDescriptor yX3_hasRoomForStranger.desc).map (fun d => d.parameters.length) = some 0 := by decide +kernel
set_option maxHeartbeats 4000000 in
set_option maxRecDepth 100000 in
theorem c_X3_hasRoomForStranger (l : Launch) (D : va_G) (cI cJ cZ cR : ClassId) (q_this q_this_wants q_this_stands q_this_wantAt q_this_standAt : Nat) (v_this_floors : Int32) (v_this_riders : Int32) (v_this_strangers : Int32) (P : Int32 → Prop) (hw : wp_X3_hasRoomForStranger v_this_strangers P) : kM l yX3_hasRoomForStranger cX3_hasRoomForStranger 1 (some .boolean) { frames := 0, cells := 0, slots := 0, locals := 0 } D (kTy cI cJ cZ cR) [.ref q_this] [ob q_this 2 [.int v_this_floors, .int v_this_riders, .int v_this_strangers, .ref q_this_wants, .ref q_this_stands, .ref q_this_wantAt, .ref q_this_standAt]] (kQi0 D (kTy cI cJ cZ cR) P [ob q_this 2 [.int v_this_floors, .int v_this_riders, .int v_this_strangers, .ref q_this_wants, .ref q_this_stands, .ref q_this_wantAt, .ref q_this_standAt]]) 0 0 := by
  refine kM.of (by decide) (Nat.le_of_ble_eq_true rfl) ?_
  intro p e s m args below meth c A ls hx hb hr ht hown hlocks hml hN hin hA hK hP hD hS hl
  replace hl : lv_has ls 1 [(0, .ref q_this)] := hl
  obtain ⟨H, hH⟩ : ∃ H : Heap, H = s.heap := ⟨_, rfl⟩
  obtain ⟨locs, hlc⟩ : ∃ L : List Loc, L = [] := ⟨_, rfl⟩
  replace hP : va_P D kCl [ob q_this 2 [.int v_this_floors, .int v_this_riders, .int v_this_strangers, .ref q_this_wants, .ref q_this_stands, .ref q_this_wantAt, .ref q_this_standAt]] H := by rw [hH]; exact hP
  replace hS : va_S A s.heap H locs := by rw [hH, hlc]; exact hS
  replace hD : va_D A [ob q_this 2 [.int v_this_floors, .int v_this_riders, .int v_this_strangers, .ref q_this_wants, .ref q_this_stands, .ref q_this_wantAt, .ref q_this_standAt]] := hD
  rw [show W p l e _ s m args below meth c s.heap [] 0 0 _ _ = W p l e _ s m args below meth c H locs 0 0 _ _ from by rw [hH, hlc]]
  unfold wp_X3_hasRoomForStranger at hw
  refine lv_aload_n hx hb dX3_hasRoomForStranger_0 rfl (lv_at hl 0 rfl) ?_
  refine va_get (D := D) (ci := 2) (v := .int v_this_strangers) (C := RX3) (T := TX3) (N := 7) hx hb ht inX3 hown hK hP 0 rfl rfl 2 (by decide) (ht _ mw_67) (fun _ h9 => h9) rfl dX3_hasRoomForStranger_1 ?_
  refine lv_iconst (v := (2 : Int32)) hx hb dX3_hasRoomForStranger_4 (by decide) ?_
  refine lv_icmp_ge (tgt := 12) hx hb dX3_hasRoomForStranger_5 (by decide) (fun c_1 => ?_) (fun c_1 => ?_)
  · replace hw := hw.1 c_1
    refine lv_iconst (v := (0 : Int32)) hx hb dX3_hasRoomForStranger_12 (by decide) ?_
    exact W.zret (v := (0 : Int32)) (ty := .boolean) hx hb hr rfl (kEi0 hw hP hD hK hS) hS.2.2 dX3_hasRoomForStranger_13
  · replace hw := hw.2 c_1
    refine lv_iconst (v := (1 : Int32)) hx hb dX3_hasRoomForStranger_8 (by decide) ?_
    refine lv_goto (tgt := 13) hx hb dX3_hasRoomForStranger_9 (by decide) ?_
    exact W.zret (v := (1 : Int32)) (ty := .boolean) hx hb hr rfl (kEi0 hw hP hD hK hS) hS.2.2 dX3_hasRoomForStranger_13
def wp_X3_addRider (p0 : Int32) (p1 : Int32) (v_this_riders : Int32) (f_this_wants : Nat → Int32) (f_this_wantAt : Nat → Int32) (f_this_stands : Nat → Int32) (f_this_standAt : Nat → Int32) (P : Int32 → (Nat → Int32) → (Nat → Int32) → (Nat → Int32) → (Nat → Int32) → Prop) : Prop :=
  (wp_X10_put v_this_riders p1 4 f_this_wants (fun f_1 => (wp_X10_at p1 6 f_this_wantAt (fun r_2 => (wp_X10_put p1 (r_2 ||| ((1 : Int32) <<< (v_this_riders &&& 31))) 6 f_this_wantAt (fun f_3 => (wp_X10_put v_this_riders p0 4 f_this_stands (fun f_4 => (wp_X10_at p0 6 f_this_standAt (fun r_5 => (wp_X10_put p0 (r_5 ||| ((1 : Int32) <<< (v_this_riders &&& 31))) 6 f_this_standAt (fun f_6 => (∀ x_7 : Int32, x_7 = (v_this_riders + (1 : Int32)) → P x_7 f_1 f_3 f_4 f_6)))))))))))))
theorem hdX3_addRider : yX3_addRider.cls ≠ "java/lang/invoke/MethodHandle" ∧ yX3_addRider.cls ≠ "java/lang/invoke/VarHandle" ∧ (parseMethodDescriptor yX3_addRider.desc).map (fun d => d.parameters.length) = some 2 := by decide +kernel
set_option maxHeartbeats 4000000 in
set_option maxRecDepth 100000 in
theorem c_X3_addRider (l : Launch) (D : va_G) (cI cJ cZ cR : ClassId) (q_this q_this_wants q_this_stands q_this_wantAt q_this_standAt : Nat) (v_this_floors : Int32) (v_this_riders : Int32) (v_this_strangers : Int32) (f_this_wants : Nat → Int32) (f_this_wantAt : Nat → Int32) (f_this_stands : Nat → Int32) (f_this_standAt : Nat → Int32) (p0 : Int32) (p1 : Int32) (P : Int32 → (Nat → Int32) → (Nat → Int32) → (Nat → Int32) → (Nat → Int32) → Prop) (hw : wp_X3_addRider p0 p1 v_this_riders f_this_wants f_this_wantAt f_this_stands f_this_standAt P) : kM l yX3_addRider cX3_addRider 3 none { frames := 1, cells := 0, slots := 0, locals := 22 } D (kTy cI cJ cZ cR) [.ref q_this, .int p0, .int p1] [ob q_this 2 [.int v_this_floors, .int v_this_riders, .int v_this_strangers, .ref q_this_wants, .ref q_this_stands, .ref q_this_wantAt, .ref q_this_standAt], aI cI q_this_wants 4 f_this_wants, aI cI q_this_wantAt 6 f_this_wantAt, aI cI q_this_stands 4 f_this_stands, aI cI q_this_standAt 6 f_this_standAt] (kQv5 D (kTy cI cJ cZ cR) P (fun y0 y1 y2 y3 y4 => [ob q_this 2 [.int v_this_floors, .int y0, .int v_this_strangers, .ref q_this_wants, .ref q_this_stands, .ref q_this_wantAt, .ref q_this_standAt], aI cI q_this_wants 4 y1, aI cI q_this_wantAt 6 y2, aI cI q_this_stands 4 y3, aI cI q_this_standAt 6 y4])) 0 0 := by
  refine kM.of (by decide) (Nat.le_of_ble_eq_true rfl) ?_
  intro p e s m args below meth c A ls hx hb hr ht hown hlocks hml hN hin hA hK hP hD hS hl
  replace hl : lv_has ls 3 [(0, .ref q_this), (1, .int p0), (2, .int p1)] := hl
  obtain ⟨H, hH⟩ : ∃ H : Heap, H = s.heap := ⟨_, rfl⟩
  obtain ⟨locs, hlc⟩ : ∃ L : List Loc, L = [] := ⟨_, rfl⟩
  replace hP : va_P D kCl [ob q_this 2 [.int v_this_floors, .int v_this_riders, .int v_this_strangers, .ref q_this_wants, .ref q_this_stands, .ref q_this_wantAt, .ref q_this_standAt], aI cI q_this_wants 4 f_this_wants, aI cI q_this_wantAt 6 f_this_wantAt, aI cI q_this_stands 4 f_this_stands, aI cI q_this_standAt 6 f_this_standAt] H := by rw [hH]; exact hP
  replace hS : va_S A s.heap H locs := by rw [hH, hlc]; exact hS
  replace hD : va_D A [ob q_this 2 [.int v_this_floors, .int v_this_riders, .int v_this_strangers, .ref q_this_wants, .ref q_this_stands, .ref q_this_wantAt, .ref q_this_standAt], aI cI q_this_wants 4 f_this_wants, aI cI q_this_wantAt 6 f_this_wantAt, aI cI q_this_stands 4 f_this_stands, aI cI q_this_standAt 6 f_this_standAt] := hD
  rw [show W p l e _ s m args below meth c s.heap [] 0 0 _ _ = W p l e _ s m args below meth c H locs 0 0 _ _ from by rw [hH, hlc]]
  unfold wp_X3_addRider at hw
  refine lv_aload_n hx hb dX3_addRider_0 rfl (lv_at hl 0 rfl) ?_
  refine va_get (D := D) (ci := 2) (v := .ref q_this_wants) (C := RX3) (T := TX3) (N := 7) hx hb ht inX3 hown hK hP 0 rfl rfl 3 (by decide) (ht _ mw_70) (fun _ h9 => h9) rfl dX3_addRider_1 ?_
  refine lv_aload_n hx hb dX3_addRider_4 rfl (lv_at hl 0 rfl) ?_
  refine va_get (D := D) (ci := 2) (v := .int v_this_riders) (C := RX3) (T := TX3) (N := 7) hx hb ht inX3 hown hK hP 0 rfl rfl 1 (by decide) (ht _ mw_64) (fun _ h9 => h9) rfl dX3_addRider_5 ?_
  refine lv_iload_n hx hb dX3_addRider_8 rfl (lv_at hl 2 rfl) ?_
  refine kCv1 (kRSN hx hb hml hown ht hN hK hP hD (c_X10_put l D cI cJ cZ cR q_this_wants 4 f_this_wants v_this_riders p1 _ hw) [1] rfl rfl mn_329 mw_259 mw_1 mw_260 hdX10_put ⟨Nat.le_of_ble_eq_true rfl, Nat.le_of_ble_eq_true rfl⟩ ⟨rfl, rfl⟩ hl.1 rfl (Nat.le_of_ble_eq_true rfl) dX3_addRider_9 ⟨Nat.zero_le _, Nat.zero_le _⟩) hP hD hS hA [1] [0, 2, 3, 4] [0, 4, 1, 2, 3] rfl rfl rfl rfl (fun f_1 => [ob q_this 2 [.int v_this_floors, .int v_this_riders, .int v_this_strangers, .ref q_this_wants, .ref q_this_stands, .ref q_this_wantAt, .ref q_this_standAt], aI cI q_this_wants 4 f_1, aI cI q_this_wantAt 6 f_this_wantAt, aI cI q_this_stands 4 f_this_stands, aI cI q_this_standAt 6 f_this_standAt]) (fun _ => rfl) rfl (fun f_1 H locs hw hP hD hS => ?_)
  refine lv_aload_n hx hb dX3_addRider_12 rfl (lv_at hl 0 rfl) ?_
  refine va_get (D := D) (ci := 2) (v := .ref q_this_wantAt) (C := RX3) (T := TX3) (N := 7) hx hb ht inX3 hown hK hP 0 rfl rfl 5 (by decide) (ht _ mw_72) (fun _ h9 => h9) rfl dX3_addRider_13 ?_
  refine lv_iload_n hx hb dX3_addRider_16 rfl (lv_at hl 2 rfl) ?_
  refine lv_aload_n hx hb dX3_addRider_17 rfl (lv_at hl 0 rfl) ?_
  refine va_get (D := D) (ci := 2) (v := .ref q_this_wantAt) (C := RX3) (T := TX3) (N := 7) hx hb ht inX3 hown hK hP 0 rfl rfl 5 (by decide) (ht _ mw_72) (fun _ h9 => h9) rfl dX3_addRider_18 ?_
  refine lv_iload_n hx hb dX3_addRider_21 rfl (lv_at hl 2 rfl) ?_
  refine kCi0 (kRSN hx hb hml hown ht hN hK hP hD (c_X10_at l D cI cJ cZ cR q_this_wantAt 6 f_this_wantAt p1 _ hw) [2] rfl rfl mn_330 mw_286 mw_1 mw_287 hdX10_at ⟨Nat.le_of_ble_eq_true rfl, Nat.le_of_ble_eq_true rfl⟩ ⟨rfl, rfl⟩ hl.1 rfl (Nat.le_of_ble_eq_true rfl) dX3_addRider_22 ⟨Nat.zero_le _, Nat.zero_le _⟩) hP hD hS hA [2] [0, 1, 3, 4] [0, 1, 4, 2, 3] rfl rfl rfl rfl [ob q_this 2 [.int v_this_floors, .int v_this_riders, .int v_this_strangers, .ref q_this_wants, .ref q_this_stands, .ref q_this_wantAt, .ref q_this_standAt], aI cI q_this_wants 4 f_1, aI cI q_this_wantAt 6 f_this_wantAt, aI cI q_this_stands 4 f_this_stands, aI cI q_this_standAt 6 f_this_standAt] rfl rfl (fun r_2 H locs hw hP hD hS => ?_)
  refine lv_iconst (v := (1 : Int32)) hx hb dX3_addRider_25 (by decide) ?_
  refine lv_aload_n hx hb dX3_addRider_26 rfl (lv_at hl 0 rfl) ?_
  refine va_get (D := D) (ci := 2) (v := .int v_this_riders) (C := RX3) (T := TX3) (N := 7) hx hb ht inX3 hown hK hP 0 rfl rfl 1 (by decide) (ht _ mw_64) (fun _ h9 => h9) rfl dX3_addRider_27 ?_
  refine lv_ishl hx hb dX3_addRider_30 ?_
  refine lv_ior hx hb dX3_addRider_31 ?_
  refine kCv1 (kRSN hx hb hml hown ht hN hK hP hD (c_X10_put l D cI cJ cZ cR q_this_wantAt 6 f_this_wantAt p1 (r_2 ||| ((1 : Int32) <<< (v_this_riders &&& 31))) _ hw) [2] rfl rfl mn_329 mw_259 mw_1 mw_260 hdX10_put ⟨Nat.le_of_ble_eq_true rfl, Nat.le_of_ble_eq_true rfl⟩ ⟨rfl, rfl⟩ hl.1 rfl (Nat.le_of_ble_eq_true rfl) dX3_addRider_32 ⟨Nat.zero_le _, Nat.zero_le _⟩) hP hD hS hA [2] [0, 1, 3, 4] [0, 1, 4, 2, 3] rfl rfl rfl rfl (fun f_3 => [ob q_this 2 [.int v_this_floors, .int v_this_riders, .int v_this_strangers, .ref q_this_wants, .ref q_this_stands, .ref q_this_wantAt, .ref q_this_standAt], aI cI q_this_wants 4 f_1, aI cI q_this_wantAt 6 f_3, aI cI q_this_stands 4 f_this_stands, aI cI q_this_standAt 6 f_this_standAt]) (fun _ => rfl) rfl (fun f_3 H locs hw hP hD hS => ?_)
  refine lv_aload_n hx hb dX3_addRider_35 rfl (lv_at hl 0 rfl) ?_
  refine va_get (D := D) (ci := 2) (v := .ref q_this_stands) (C := RX3) (T := TX3) (N := 7) hx hb ht inX3 hown hK hP 0 rfl rfl 4 (by decide) (ht _ mw_71) (fun _ h9 => h9) rfl dX3_addRider_36 ?_
  refine lv_aload_n hx hb dX3_addRider_39 rfl (lv_at hl 0 rfl) ?_
  refine va_get (D := D) (ci := 2) (v := .int v_this_riders) (C := RX3) (T := TX3) (N := 7) hx hb ht inX3 hown hK hP 0 rfl rfl 1 (by decide) (ht _ mw_64) (fun _ h9 => h9) rfl dX3_addRider_40 ?_
  refine lv_iload_n hx hb dX3_addRider_43 rfl (lv_at hl 1 rfl) ?_
  refine kCv1 (kRSN hx hb hml hown ht hN hK hP hD (c_X10_put l D cI cJ cZ cR q_this_stands 4 f_this_stands v_this_riders p0 _ hw) [3] rfl rfl mn_329 mw_259 mw_1 mw_260 hdX10_put ⟨Nat.le_of_ble_eq_true rfl, Nat.le_of_ble_eq_true rfl⟩ ⟨rfl, rfl⟩ hl.1 rfl (Nat.le_of_ble_eq_true rfl) dX3_addRider_44 ⟨Nat.zero_le _, Nat.zero_le _⟩) hP hD hS hA [3] [0, 1, 2, 4] [0, 1, 2, 4, 3] rfl rfl rfl rfl (fun f_4 => [ob q_this 2 [.int v_this_floors, .int v_this_riders, .int v_this_strangers, .ref q_this_wants, .ref q_this_stands, .ref q_this_wantAt, .ref q_this_standAt], aI cI q_this_wants 4 f_1, aI cI q_this_wantAt 6 f_3, aI cI q_this_stands 4 f_4, aI cI q_this_standAt 6 f_this_standAt]) (fun _ => rfl) rfl (fun f_4 H locs hw hP hD hS => ?_)
  refine lv_aload_n hx hb dX3_addRider_47 rfl (lv_at hl 0 rfl) ?_
  refine va_get (D := D) (ci := 2) (v := .ref q_this_standAt) (C := RX3) (T := TX3) (N := 7) hx hb ht inX3 hown hK hP 0 rfl rfl 6 (by decide) (ht _ mw_73) (fun _ h9 => h9) rfl dX3_addRider_48 ?_
  refine lv_iload_n hx hb dX3_addRider_51 rfl (lv_at hl 1 rfl) ?_
  refine lv_aload_n hx hb dX3_addRider_52 rfl (lv_at hl 0 rfl) ?_
  refine va_get (D := D) (ci := 2) (v := .ref q_this_standAt) (C := RX3) (T := TX3) (N := 7) hx hb ht inX3 hown hK hP 0 rfl rfl 6 (by decide) (ht _ mw_73) (fun _ h9 => h9) rfl dX3_addRider_53 ?_
  refine lv_iload_n hx hb dX3_addRider_56 rfl (lv_at hl 1 rfl) ?_
  refine kCi0 (kRSN hx hb hml hown ht hN hK hP hD (c_X10_at l D cI cJ cZ cR q_this_standAt 6 f_this_standAt p0 _ hw) [4] rfl rfl mn_330 mw_286 mw_1 mw_287 hdX10_at ⟨Nat.le_of_ble_eq_true rfl, Nat.le_of_ble_eq_true rfl⟩ ⟨rfl, rfl⟩ hl.1 rfl (Nat.le_of_ble_eq_true rfl) dX3_addRider_57 ⟨Nat.zero_le _, Nat.zero_le _⟩) hP hD hS hA [4] [0, 1, 2, 3] [0, 1, 2, 3, 4] rfl rfl rfl rfl [ob q_this 2 [.int v_this_floors, .int v_this_riders, .int v_this_strangers, .ref q_this_wants, .ref q_this_stands, .ref q_this_wantAt, .ref q_this_standAt], aI cI q_this_wants 4 f_1, aI cI q_this_wantAt 6 f_3, aI cI q_this_stands 4 f_4, aI cI q_this_standAt 6 f_this_standAt] rfl rfl (fun r_5 H locs hw hP hD hS => ?_)
  refine lv_iconst (v := (1 : Int32)) hx hb dX3_addRider_60 (by decide) ?_
  refine lv_aload_n hx hb dX3_addRider_61 rfl (lv_at hl 0 rfl) ?_
  refine va_get (D := D) (ci := 2) (v := .int v_this_riders) (C := RX3) (T := TX3) (N := 7) hx hb ht inX3 hown hK hP 0 rfl rfl 1 (by decide) (ht _ mw_64) (fun _ h9 => h9) rfl dX3_addRider_62 ?_
  refine lv_ishl hx hb dX3_addRider_65 ?_
  refine lv_ior hx hb dX3_addRider_66 ?_
  refine kCv1 (kRSN hx hb hml hown ht hN hK hP hD (c_X10_put l D cI cJ cZ cR q_this_standAt 6 f_this_standAt p0 (r_5 ||| ((1 : Int32) <<< (v_this_riders &&& 31))) _ hw) [4] rfl rfl mn_329 mw_259 mw_1 mw_260 hdX10_put ⟨Nat.le_of_ble_eq_true rfl, Nat.le_of_ble_eq_true rfl⟩ ⟨rfl, rfl⟩ hl.1 rfl (Nat.le_of_ble_eq_true rfl) dX3_addRider_67 ⟨Nat.zero_le _, Nat.zero_le _⟩) hP hD hS hA [4] [0, 1, 2, 3] [0, 1, 2, 3, 4] rfl rfl rfl rfl (fun f_6 => [ob q_this 2 [.int v_this_floors, .int v_this_riders, .int v_this_strangers, .ref q_this_wants, .ref q_this_stands, .ref q_this_wantAt, .ref q_this_standAt], aI cI q_this_wants 4 f_1, aI cI q_this_wantAt 6 f_3, aI cI q_this_stands 4 f_4, aI cI q_this_standAt 6 f_6]) (fun _ => rfl) rfl (fun f_6 H locs hw hP hD hS => ?_)
  refine lv_aload_n hx hb dX3_addRider_70 rfl (lv_at hl 0 rfl) ?_
  refine lv_dup hx hb dX3_addRider_71 rfl ?_
  refine va_get (D := D) (ci := 2) (v := .int v_this_riders) (C := RX3) (T := TX3) (N := 7) hx hb ht inX3 hown hK hP 0 rfl rfl 1 (by decide) (ht _ mw_64) (fun _ h9 => h9) rfl dX3_addRider_72 ?_
  refine lv_iconst (v := (1 : Int32)) hx hb dX3_addRider_75 (by decide) ?_
  refine lv_iadd hx hb dX3_addRider_76 ?_
  refine lv_topi (fun x_7 ex_7 => ?_)
  replace hw := hw x_7 ex_7
  refine va_put (D := D) (ci := 2) (v := .int x_7) (ty := .int) (C := RX3) (T := TX3) (N := 7) hx hb ht inX3 tyX3 tyX3_ok nmX3 hown hK hP hD hS 0 rfl rfl 1 (by decide) (ht _ mw_64) (fun _ h9 => h9) rfl (by decide +kernel) rfl rfl (Nat.le_of_ble_eq_true rfl) dX3_addRider_77 (fun H locs hP hD hS => ?_)
  replace hP : va_P D kCl [ob q_this 2 [.int v_this_floors, .int x_7, .int v_this_strangers, .ref q_this_wants, .ref q_this_stands, .ref q_this_wantAt, .ref q_this_standAt], aI cI q_this_wants 4 f_1, aI cI q_this_wantAt 6 f_3, aI cI q_this_stands 4 f_4, aI cI q_this_standAt 6 f_6] H := hP
  replace hD : va_D A [ob q_this 2 [.int v_this_floors, .int x_7, .int v_this_strangers, .ref q_this_wants, .ref q_this_stands, .ref q_this_wantAt, .ref q_this_standAt], aI cI q_this_wants 4 f_1, aI cI q_this_wantAt 6 f_3, aI cI q_this_stands 4 f_4, aI cI q_this_standAt 6 f_6] := hD
  exact W.vret hx hb hr (kEv5 hw hP hD hK hS) hS.2.2 dX3_addRider_80
def wp_X3_addStranger (v_this_strangers : Int32) (P : Int32 → Prop) : Prop :=
  (∀ x_1 : Int32, x_1 = (v_this_strangers + (1 : Int32)) → P x_1)
theorem hdX3_addStranger : yX3_addStranger.cls ≠ "java/lang/invoke/MethodHandle" ∧ yX3_addStranger.cls ≠ "java/lang/invoke/VarHandle" ∧ (parseMethodDescriptor yX3_addStranger.desc).map (fun d => d.parameters.length) = some 0 := by decide +kernel
set_option maxHeartbeats 4000000 in
set_option maxRecDepth 100000 in
theorem c_X3_addStranger (l : Launch) (D : va_G) (cI cJ cZ cR : ClassId) (q_this q_this_wants q_this_stands q_this_wantAt q_this_standAt : Nat) (v_this_floors : Int32) (v_this_riders : Int32) (v_this_strangers : Int32) (P : Int32 → Prop) (hw : wp_X3_addStranger v_this_strangers P) : kM l yX3_addStranger cX3_addStranger 1 none { frames := 0, cells := 0, slots := 0, locals := 0 } D (kTy cI cJ cZ cR) [.ref q_this] [ob q_this 2 [.int v_this_floors, .int v_this_riders, .int v_this_strangers, .ref q_this_wants, .ref q_this_stands, .ref q_this_wantAt, .ref q_this_standAt]] (kQv1 D (kTy cI cJ cZ cR) P (fun y0 => [ob q_this 2 [.int v_this_floors, .int v_this_riders, .int y0, .ref q_this_wants, .ref q_this_stands, .ref q_this_wantAt, .ref q_this_standAt]])) 0 0 := by
  refine kM.of (by decide) (Nat.le_of_ble_eq_true rfl) ?_
  intro p e s m args below meth c A ls hx hb hr ht hown hlocks hml hN hin hA hK hP hD hS hl
  replace hl : lv_has ls 1 [(0, .ref q_this)] := hl
  obtain ⟨H, hH⟩ : ∃ H : Heap, H = s.heap := ⟨_, rfl⟩
  obtain ⟨locs, hlc⟩ : ∃ L : List Loc, L = [] := ⟨_, rfl⟩
  replace hP : va_P D kCl [ob q_this 2 [.int v_this_floors, .int v_this_riders, .int v_this_strangers, .ref q_this_wants, .ref q_this_stands, .ref q_this_wantAt, .ref q_this_standAt]] H := by rw [hH]; exact hP
  replace hS : va_S A s.heap H locs := by rw [hH, hlc]; exact hS
  replace hD : va_D A [ob q_this 2 [.int v_this_floors, .int v_this_riders, .int v_this_strangers, .ref q_this_wants, .ref q_this_stands, .ref q_this_wantAt, .ref q_this_standAt]] := hD
  rw [show W p l e _ s m args below meth c s.heap [] 0 0 _ _ = W p l e _ s m args below meth c H locs 0 0 _ _ from by rw [hH, hlc]]
  unfold wp_X3_addStranger at hw
  refine lv_aload_n hx hb dX3_addStranger_0 rfl (lv_at hl 0 rfl) ?_
  refine lv_dup hx hb dX3_addStranger_1 rfl ?_
  refine va_get (D := D) (ci := 2) (v := .int v_this_strangers) (C := RX3) (T := TX3) (N := 7) hx hb ht inX3 hown hK hP 0 rfl rfl 2 (by decide) (ht _ mw_67) (fun _ h9 => h9) rfl dX3_addStranger_2 ?_
  refine lv_iconst (v := (1 : Int32)) hx hb dX3_addStranger_5 (by decide) ?_
  refine lv_iadd hx hb dX3_addStranger_6 ?_
  refine lv_topi (fun x_1 ex_1 => ?_)
  replace hw := hw x_1 ex_1
  refine va_put (D := D) (ci := 2) (v := .int x_1) (ty := .int) (C := RX3) (T := TX3) (N := 7) hx hb ht inX3 tyX3 tyX3_ok nmX3 hown hK hP hD hS 0 rfl rfl 2 (by decide) (ht _ mw_67) (fun _ h9 => h9) rfl (by decide +kernel) rfl rfl (Nat.le_of_ble_eq_true rfl) dX3_addStranger_7 (fun H locs hP hD hS => ?_)
  replace hP : va_P D kCl [ob q_this 2 [.int v_this_floors, .int v_this_riders, .int x_1, .ref q_this_wants, .ref q_this_stands, .ref q_this_wantAt, .ref q_this_standAt]] H := hP
  replace hD : va_D A [ob q_this 2 [.int v_this_floors, .int v_this_riders, .int x_1, .ref q_this_wants, .ref q_this_stands, .ref q_this_wantAt, .ref q_this_standAt]] := hD
  exact W.vret hx hb hr (kEv1 hw hP hD hK hS) hS.2.2 dX3_addStranger_10
def wp_X3_standOf (p0 : Int32) (f_this_stands : Nat → Int32) (P : Int32 → Prop) : Prop :=
  (wp_X10_at p0 4 f_this_stands (fun r_1 => P r_1))
theorem hdX3_standOf : yX3_standOf.cls ≠ "java/lang/invoke/MethodHandle" ∧ yX3_standOf.cls ≠ "java/lang/invoke/VarHandle" ∧ (parseMethodDescriptor yX3_standOf.desc).map (fun d => d.parameters.length) = some 1 := by decide +kernel
set_option maxHeartbeats 4000000 in
set_option maxRecDepth 100000 in
theorem c_X3_standOf (l : Launch) (D : va_G) (cI cJ cZ cR : ClassId) (q_this q_this_wants q_this_stands q_this_wantAt q_this_standAt : Nat) (v_this_floors : Int32) (v_this_riders : Int32) (v_this_strangers : Int32) (f_this_stands : Nat → Int32) (p0 : Int32) (P : Int32 → Prop) (hw : wp_X3_standOf p0 f_this_stands P) : kM l yX3_standOf cX3_standOf 2 (some .int) { frames := 1, cells := 0, slots := 0, locals := 21 } D (kTy cI cJ cZ cR) [.ref q_this, .int p0] [ob q_this 2 [.int v_this_floors, .int v_this_riders, .int v_this_strangers, .ref q_this_wants, .ref q_this_stands, .ref q_this_wantAt, .ref q_this_standAt], aI cI q_this_stands 4 f_this_stands] (kQi0 D (kTy cI cJ cZ cR) P [ob q_this 2 [.int v_this_floors, .int v_this_riders, .int v_this_strangers, .ref q_this_wants, .ref q_this_stands, .ref q_this_wantAt, .ref q_this_standAt], aI cI q_this_stands 4 f_this_stands]) 0 0 := by
  refine kM.of (by decide) (Nat.le_of_ble_eq_true rfl) ?_
  intro p e s m args below meth c A ls hx hb hr ht hown hlocks hml hN hin hA hK hP hD hS hl
  replace hl : lv_has ls 2 [(0, .ref q_this), (1, .int p0)] := hl
  obtain ⟨H, hH⟩ : ∃ H : Heap, H = s.heap := ⟨_, rfl⟩
  obtain ⟨locs, hlc⟩ : ∃ L : List Loc, L = [] := ⟨_, rfl⟩
  replace hP : va_P D kCl [ob q_this 2 [.int v_this_floors, .int v_this_riders, .int v_this_strangers, .ref q_this_wants, .ref q_this_stands, .ref q_this_wantAt, .ref q_this_standAt], aI cI q_this_stands 4 f_this_stands] H := by rw [hH]; exact hP
  replace hS : va_S A s.heap H locs := by rw [hH, hlc]; exact hS
  replace hD : va_D A [ob q_this 2 [.int v_this_floors, .int v_this_riders, .int v_this_strangers, .ref q_this_wants, .ref q_this_stands, .ref q_this_wantAt, .ref q_this_standAt], aI cI q_this_stands 4 f_this_stands] := hD
  rw [show W p l e _ s m args below meth c s.heap [] 0 0 _ _ = W p l e _ s m args below meth c H locs 0 0 _ _ from by rw [hH, hlc]]
  unfold wp_X3_standOf at hw
  refine lv_aload_n hx hb dX3_standOf_0 rfl (lv_at hl 0 rfl) ?_
  refine va_get (D := D) (ci := 2) (v := .ref q_this_stands) (C := RX3) (T := TX3) (N := 7) hx hb ht inX3 hown hK hP 0 rfl rfl 4 (by decide) (ht _ mw_71) (fun _ h9 => h9) rfl dX3_standOf_1 ?_
  refine lv_iload_n hx hb dX3_standOf_4 rfl (lv_at hl 1 rfl) ?_
  refine kCi0 (kRSN hx hb hml hown ht hN hK hP hD (c_X10_at l D cI cJ cZ cR q_this_stands 4 f_this_stands p0 _ hw) [1] rfl rfl mn_330 mw_286 mw_1 mw_287 hdX10_at ⟨Nat.le_of_ble_eq_true rfl, Nat.le_of_ble_eq_true rfl⟩ ⟨rfl, rfl⟩ hl.1 rfl (Nat.le_of_ble_eq_true rfl) dX3_standOf_5 ⟨Nat.zero_le _, Nat.zero_le _⟩) hP hD hS hA [1] [0] [0, 1] rfl rfl rfl rfl [ob q_this 2 [.int v_this_floors, .int v_this_riders, .int v_this_strangers, .ref q_this_wants, .ref q_this_stands, .ref q_this_wantAt, .ref q_this_standAt], aI cI q_this_stands 4 f_this_stands] rfl rfl (fun r_1 H locs hw hP hD hS => ?_)
  exact W.iret (v := r_1) hx hb hr (kEi0 hw hP hD hK hS) hS.2.2 dX3_standOf_8
def wp_X3_settle (p0 : Int32) (p1 : Int32) (f_this_stands : Nat → Int32) (f_this_standAt : Nat → Int32) (P : (Nat → Int32) → (Nat → Int32) → Prop) : Prop :=
  (wp_X3_standOf p0 f_this_stands (fun r_1 => (wp_X10_at r_1 6 f_this_standAt (fun r_2 => (wp_X10_put r_1 (r_2 &&& (((1 : Int32) <<< (p0 &&& 31)) ^^^ (-1 : Int32))) 6 f_this_standAt (fun f_3 => (wp_X10_put p0 p1 4 f_this_stands (fun f_4 => (wp_X10_at p1 6 f_3 (fun r_5 => (wp_X10_put p1 (r_5 ||| ((1 : Int32) <<< (p0 &&& 31))) 6 f_3 (fun f_6 => P f_4 f_6))))))))))))
theorem hdX3_settle : yX3_settle.cls ≠ "java/lang/invoke/MethodHandle" ∧ yX3_settle.cls ≠ "java/lang/invoke/VarHandle" ∧ (parseMethodDescriptor yX3_settle.desc).map (fun d => d.parameters.length) = some 2 := by decide +kernel
set_option maxHeartbeats 4000000 in
set_option maxRecDepth 100000 in
theorem c_X3_settle (l : Launch) (D : va_G) (cI cJ cZ cR : ClassId) (q_this q_this_wants q_this_stands q_this_wantAt q_this_standAt : Nat) (v_this_floors : Int32) (v_this_riders : Int32) (v_this_strangers : Int32) (f_this_stands : Nat → Int32) (f_this_standAt : Nat → Int32) (p0 : Int32) (p1 : Int32) (P : (Nat → Int32) → (Nat → Int32) → Prop) (hw : wp_X3_settle p0 p1 f_this_stands f_this_standAt P) : kM l yX3_settle cX3_settle 4 none { frames := 2, cells := 0, slots := 0, locals := 42 } D (kTy cI cJ cZ cR) [.ref q_this, .int p0, .int p1] [ob q_this 2 [.int v_this_floors, .int v_this_riders, .int v_this_strangers, .ref q_this_wants, .ref q_this_stands, .ref q_this_wantAt, .ref q_this_standAt], aI cI q_this_stands 4 f_this_stands, aI cI q_this_standAt 6 f_this_standAt] (kQv2 D (kTy cI cJ cZ cR) P (fun y0 y1 => [ob q_this 2 [.int v_this_floors, .int v_this_riders, .int v_this_strangers, .ref q_this_wants, .ref q_this_stands, .ref q_this_wantAt, .ref q_this_standAt], aI cI q_this_stands 4 y0, aI cI q_this_standAt 6 y1])) 0 0 := by
  refine kM.of (by decide) (Nat.le_of_ble_eq_true rfl) ?_
  intro p e s m args below meth c A ls hx hb hr ht hown hlocks hml hN hin hA hK hP hD hS hl
  replace hl : lv_has ls 4 [(0, .ref q_this), (1, .int p0), (2, .int p1)] := hl
  obtain ⟨H, hH⟩ : ∃ H : Heap, H = s.heap := ⟨_, rfl⟩
  obtain ⟨locs, hlc⟩ : ∃ L : List Loc, L = [] := ⟨_, rfl⟩
  replace hP : va_P D kCl [ob q_this 2 [.int v_this_floors, .int v_this_riders, .int v_this_strangers, .ref q_this_wants, .ref q_this_stands, .ref q_this_wantAt, .ref q_this_standAt], aI cI q_this_stands 4 f_this_stands, aI cI q_this_standAt 6 f_this_standAt] H := by rw [hH]; exact hP
  replace hS : va_S A s.heap H locs := by rw [hH, hlc]; exact hS
  replace hD : va_D A [ob q_this 2 [.int v_this_floors, .int v_this_riders, .int v_this_strangers, .ref q_this_wants, .ref q_this_stands, .ref q_this_wantAt, .ref q_this_standAt], aI cI q_this_stands 4 f_this_stands, aI cI q_this_standAt 6 f_this_standAt] := hD
  rw [show W p l e _ s m args below meth c s.heap [] 0 0 _ _ = W p l e _ s m args below meth c H locs 0 0 _ _ from by rw [hH, hlc]]
  unfold wp_X3_settle at hw
  refine lv_aload_n hx hb dX3_settle_0 rfl (lv_at hl 0 rfl) ?_
  refine lv_iload_n hx hb dX3_settle_1 rfl (lv_at hl 1 rfl) ?_
  refine kCi0 (kRV hx hb hml hown ht hN hK hP hD (c_X3_standOf l D cI cJ cZ cR q_this q_this_wants q_this_stands q_this_wantAt q_this_standAt v_this_floors v_this_riders v_this_strangers f_this_stands p0 _ hw) [0, 1] rfl rfl (T := TX3) (N := 7) rfl rfl mw_658 mw_448 mw_449 mw_5 mw_450 hdX3_standOf ⟨Nat.le_of_ble_eq_true rfl, Nat.le_of_ble_eq_true rfl⟩ ⟨rfl, rfl⟩ hl.1 rfl (Nat.le_of_ble_eq_true rfl) dX3_settle_2 ⟨Nat.zero_le _, Nat.zero_le _⟩) hP hD hS hA [0, 1] [2] [1, 2, 0] rfl rfl rfl rfl [ob q_this 2 [.int v_this_floors, .int v_this_riders, .int v_this_strangers, .ref q_this_wants, .ref q_this_stands, .ref q_this_wantAt, .ref q_this_standAt], aI cI q_this_stands 4 f_this_stands, aI cI q_this_standAt 6 f_this_standAt] rfl rfl (fun r_1 H locs hw hP hD hS => ?_)
  refine lv_istore_n (lv' := [(3, .int r_1), (0, .ref q_this), (1, .int p0), (2, .int p1)]) hx hb dX3_settle_5 rfl hl (by decide) rfl (fun ls hl => ?_)
  refine lv_aload_n hx hb dX3_settle_6 rfl (lv_at hl 1 rfl) ?_
  refine va_get (D := D) (ci := 2) (v := .ref q_this_standAt) (C := RX3) (T := TX3) (N := 7) hx hb ht inX3 hown hK hP 0 rfl rfl 6 (by decide) (ht _ mw_73) (fun _ h9 => h9) rfl dX3_settle_7 ?_
  refine lv_iload_n hx hb dX3_settle_10 rfl (lv_at hl 0 rfl) ?_
  refine lv_aload_n hx hb dX3_settle_11 rfl (lv_at hl 1 rfl) ?_
  refine va_get (D := D) (ci := 2) (v := .ref q_this_standAt) (C := RX3) (T := TX3) (N := 7) hx hb ht inX3 hown hK hP 0 rfl rfl 6 (by decide) (ht _ mw_73) (fun _ h9 => h9) rfl dX3_settle_12 ?_
  refine lv_iload_n hx hb dX3_settle_15 rfl (lv_at hl 0 rfl) ?_
  refine kCi0 (kRSN hx hb hml hown ht hN hK hP hD (c_X10_at l D cI cJ cZ cR q_this_standAt 6 f_this_standAt r_1 _ hw) [2] rfl rfl mn_330 mw_286 mw_1 mw_287 hdX10_at ⟨Nat.le_of_ble_eq_true rfl, Nat.le_of_ble_eq_true rfl⟩ ⟨rfl, rfl⟩ hl.1 rfl (Nat.le_of_ble_eq_true rfl) dX3_settle_16 ⟨Nat.zero_le _, Nat.zero_le _⟩) hP hD hS hA [2] [0, 1] [0, 1, 2] rfl rfl rfl rfl [ob q_this 2 [.int v_this_floors, .int v_this_riders, .int v_this_strangers, .ref q_this_wants, .ref q_this_stands, .ref q_this_wantAt, .ref q_this_standAt], aI cI q_this_stands 4 f_this_stands, aI cI q_this_standAt 6 f_this_standAt] rfl rfl (fun r_2 H locs hw hP hD hS => ?_)
  refine lv_iconst (v := (1 : Int32)) hx hb dX3_settle_19 (by decide) ?_
  refine lv_iload_n hx hb dX3_settle_20 rfl (lv_at hl 2 rfl) ?_
  refine lv_ishl hx hb dX3_settle_21 ?_
  refine lv_iconst (v := (-1 : Int32)) hx hb dX3_settle_22 (by decide) ?_
  refine lv_ixor hx hb dX3_settle_23 ?_
  refine lv_iand hx hb dX3_settle_24 ?_
  refine kCv1 (kRSN hx hb hml hown ht hN hK hP hD (c_X10_put l D cI cJ cZ cR q_this_standAt 6 f_this_standAt r_1 (r_2 &&& (((1 : Int32) <<< (p0 &&& 31)) ^^^ (-1 : Int32))) _ hw) [2] rfl rfl mn_329 mw_259 mw_1 mw_260 hdX10_put ⟨Nat.le_of_ble_eq_true rfl, Nat.le_of_ble_eq_true rfl⟩ ⟨rfl, rfl⟩ hl.1 rfl (Nat.le_of_ble_eq_true rfl) dX3_settle_25 ⟨Nat.zero_le _, Nat.zero_le _⟩) hP hD hS hA [2] [0, 1] [0, 1, 2] rfl rfl rfl rfl (fun f_3 => [ob q_this 2 [.int v_this_floors, .int v_this_riders, .int v_this_strangers, .ref q_this_wants, .ref q_this_stands, .ref q_this_wantAt, .ref q_this_standAt], aI cI q_this_stands 4 f_this_stands, aI cI q_this_standAt 6 f_3]) (fun _ => rfl) rfl (fun f_3 H locs hw hP hD hS => ?_)
  refine lv_aload_n hx hb dX3_settle_28 rfl (lv_at hl 1 rfl) ?_
  refine va_get (D := D) (ci := 2) (v := .ref q_this_stands) (C := RX3) (T := TX3) (N := 7) hx hb ht inX3 hown hK hP 0 rfl rfl 4 (by decide) (ht _ mw_71) (fun _ h9 => h9) rfl dX3_settle_29 ?_
  refine lv_iload_n hx hb dX3_settle_32 rfl (lv_at hl 2 rfl) ?_
  refine lv_iload_n hx hb dX3_settle_33 rfl (lv_at hl 3 rfl) ?_
  refine kCv1 (kRSN hx hb hml hown ht hN hK hP hD (c_X10_put l D cI cJ cZ cR q_this_stands 4 f_this_stands p0 p1 _ hw) [1] rfl rfl mn_329 mw_259 mw_1 mw_260 hdX10_put ⟨Nat.le_of_ble_eq_true rfl, Nat.le_of_ble_eq_true rfl⟩ ⟨rfl, rfl⟩ hl.1 rfl (Nat.le_of_ble_eq_true rfl) dX3_settle_34 ⟨Nat.zero_le _, Nat.zero_le _⟩) hP hD hS hA [1] [0, 2] [0, 2, 1] rfl rfl rfl rfl (fun f_4 => [ob q_this 2 [.int v_this_floors, .int v_this_riders, .int v_this_strangers, .ref q_this_wants, .ref q_this_stands, .ref q_this_wantAt, .ref q_this_standAt], aI cI q_this_stands 4 f_4, aI cI q_this_standAt 6 f_3]) (fun _ => rfl) rfl (fun f_4 H locs hw hP hD hS => ?_)
  refine lv_aload_n hx hb dX3_settle_37 rfl (lv_at hl 1 rfl) ?_
  refine va_get (D := D) (ci := 2) (v := .ref q_this_standAt) (C := RX3) (T := TX3) (N := 7) hx hb ht inX3 hown hK hP 0 rfl rfl 6 (by decide) (ht _ mw_73) (fun _ h9 => h9) rfl dX3_settle_38 ?_
  refine lv_iload_n hx hb dX3_settle_41 rfl (lv_at hl 3 rfl) ?_
  refine lv_aload_n hx hb dX3_settle_42 rfl (lv_at hl 1 rfl) ?_
  refine va_get (D := D) (ci := 2) (v := .ref q_this_standAt) (C := RX3) (T := TX3) (N := 7) hx hb ht inX3 hown hK hP 0 rfl rfl 6 (by decide) (ht _ mw_73) (fun _ h9 => h9) rfl dX3_settle_43 ?_
  refine lv_iload_n hx hb dX3_settle_46 rfl (lv_at hl 3 rfl) ?_
  refine kCi0 (kRSN hx hb hml hown ht hN hK hP hD (c_X10_at l D cI cJ cZ cR q_this_standAt 6 f_3 p1 _ hw) [2] rfl rfl mn_330 mw_286 mw_1 mw_287 hdX10_at ⟨Nat.le_of_ble_eq_true rfl, Nat.le_of_ble_eq_true rfl⟩ ⟨rfl, rfl⟩ hl.1 rfl (Nat.le_of_ble_eq_true rfl) dX3_settle_47 ⟨Nat.zero_le _, Nat.zero_le _⟩) hP hD hS hA [2] [0, 1] [0, 1, 2] rfl rfl rfl rfl [ob q_this 2 [.int v_this_floors, .int v_this_riders, .int v_this_strangers, .ref q_this_wants, .ref q_this_stands, .ref q_this_wantAt, .ref q_this_standAt], aI cI q_this_stands 4 f_4, aI cI q_this_standAt 6 f_3] rfl rfl (fun r_5 H locs hw hP hD hS => ?_)
  refine lv_iconst (v := (1 : Int32)) hx hb dX3_settle_50 (by decide) ?_
  refine lv_iload_n hx hb dX3_settle_51 rfl (lv_at hl 2 rfl) ?_
  refine lv_ishl hx hb dX3_settle_52 ?_
  refine lv_ior hx hb dX3_settle_53 ?_
  refine kCv1 (kRSN hx hb hml hown ht hN hK hP hD (c_X10_put l D cI cJ cZ cR q_this_standAt 6 f_3 p1 (r_5 ||| ((1 : Int32) <<< (p0 &&& 31))) _ hw) [2] rfl rfl mn_329 mw_259 mw_1 mw_260 hdX10_put ⟨Nat.le_of_ble_eq_true rfl, Nat.le_of_ble_eq_true rfl⟩ ⟨rfl, rfl⟩ hl.1 rfl (Nat.le_of_ble_eq_true rfl) dX3_settle_54 ⟨Nat.zero_le _, Nat.zero_le _⟩) hP hD hS hA [2] [0, 1] [0, 1, 2] rfl rfl rfl rfl (fun f_6 => [ob q_this 2 [.int v_this_floors, .int v_this_riders, .int v_this_strangers, .ref q_this_wants, .ref q_this_stands, .ref q_this_wantAt, .ref q_this_standAt], aI cI q_this_stands 4 f_4, aI cI q_this_standAt 6 f_6]) (fun _ => rfl) rfl (fun f_6 H locs hw hP hD hS => ?_)
  exact W.vret hx hb hr (kEv2 hw hP hD hK hS) hS.2.2 dX3_settle_57
def wp_X3_hasFloor (p0 : Int32) (v_this_floors : Int32) (P : Int32 → Prop) : Prop :=
  ((p0 < 0 → P (0 : Int32)) ∧ (¬ p0 < 0 → ((v_this_floors ≤ p0 → P (0 : Int32)) ∧ (¬ v_this_floors ≤ p0 → P (1 : Int32)))))
theorem hdX3_hasFloor : yX3_hasFloor.cls ≠ "java/lang/invoke/MethodHandle" ∧ yX3_hasFloor.cls ≠ "java/lang/invoke/VarHandle" ∧ (parseMethodDescriptor yX3_hasFloor.desc).map (fun d => d.parameters.length) = some 1 := by decide +kernel
set_option maxHeartbeats 4000000 in
set_option maxRecDepth 100000 in
theorem c_X3_hasFloor (l : Launch) (D : va_G) (cI cJ cZ cR : ClassId) (q_this q_this_wants q_this_stands q_this_wantAt q_this_standAt : Nat) (v_this_floors : Int32) (v_this_riders : Int32) (v_this_strangers : Int32) (p0 : Int32) (P : Int32 → Prop) (hw : wp_X3_hasFloor p0 v_this_floors P) : kM l yX3_hasFloor cX3_hasFloor 2 (some .boolean) { frames := 0, cells := 0, slots := 0, locals := 0 } D (kTy cI cJ cZ cR) [.ref q_this, .int p0] [ob q_this 2 [.int v_this_floors, .int v_this_riders, .int v_this_strangers, .ref q_this_wants, .ref q_this_stands, .ref q_this_wantAt, .ref q_this_standAt]] (kQi0 D (kTy cI cJ cZ cR) P [ob q_this 2 [.int v_this_floors, .int v_this_riders, .int v_this_strangers, .ref q_this_wants, .ref q_this_stands, .ref q_this_wantAt, .ref q_this_standAt]]) 0 0 := by
  refine kM.of (by decide) (Nat.le_of_ble_eq_true rfl) ?_
  intro p e s m args below meth c A ls hx hb hr ht hown hlocks hml hN hin hA hK hP hD hS hl
  replace hl : lv_has ls 2 [(0, .ref q_this), (1, .int p0)] := hl
  obtain ⟨H, hH⟩ : ∃ H : Heap, H = s.heap := ⟨_, rfl⟩
  obtain ⟨locs, hlc⟩ : ∃ L : List Loc, L = [] := ⟨_, rfl⟩
  replace hP : va_P D kCl [ob q_this 2 [.int v_this_floors, .int v_this_riders, .int v_this_strangers, .ref q_this_wants, .ref q_this_stands, .ref q_this_wantAt, .ref q_this_standAt]] H := by rw [hH]; exact hP
  replace hS : va_S A s.heap H locs := by rw [hH, hlc]; exact hS
  replace hD : va_D A [ob q_this 2 [.int v_this_floors, .int v_this_riders, .int v_this_strangers, .ref q_this_wants, .ref q_this_stands, .ref q_this_wantAt, .ref q_this_standAt]] := hD
  rw [show W p l e _ s m args below meth c s.heap [] 0 0 _ _ = W p l e _ s m args below meth c H locs 0 0 _ _ from by rw [hH, hlc]]
  unfold wp_X3_hasFloor at hw
  refine lv_iload_n hx hb dX3_hasFloor_0 rfl (lv_at hl 1 rfl) ?_
  refine lv_if_lt (tgt := 16) hx hb dX3_hasFloor_1 (by decide) (fun c_1 => ?_) (fun c_1 => ?_)
  · replace hw := hw.1 c_1
    refine lv_iconst (v := (0 : Int32)) hx hb dX3_hasFloor_16 (by decide) ?_
    exact W.zret (v := (0 : Int32)) (ty := .boolean) hx hb hr rfl (kEi0 hw hP hD hK hS) hS.2.2 dX3_hasFloor_17
  · replace hw := hw.2 c_1
    refine lv_iload_n hx hb dX3_hasFloor_4 rfl (lv_at hl 1 rfl) ?_
    refine lv_aload_n hx hb dX3_hasFloor_5 rfl (lv_at hl 0 rfl) ?_
    refine va_get (D := D) (ci := 2) (v := .int v_this_floors) (C := RX3) (T := TX3) (N := 7) hx hb ht inX3 hown hK hP 0 rfl rfl 0 (by decide) (ht _ mw_61) (fun _ h9 => h9) rfl dX3_hasFloor_6 ?_
    refine lv_icmp_ge (tgt := 16) hx hb dX3_hasFloor_9 (by decide) (fun c_2 => ?_) (fun c_2 => ?_)
    · replace hw := hw.1 c_2
      refine lv_iconst (v := (0 : Int32)) hx hb dX3_hasFloor_16 (by decide) ?_
      exact W.zret (v := (0 : Int32)) (ty := .boolean) hx hb hr rfl (kEi0 hw hP hD hK hS) hS.2.2 dX3_hasFloor_17
    · replace hw := hw.2 c_2
      refine lv_iconst (v := (1 : Int32)) hx hb dX3_hasFloor_12 (by decide) ?_
      refine lv_goto (tgt := 17) hx hb dX3_hasFloor_13 (by decide) ?_
      exact W.zret (v := (1 : Int32)) (ty := .boolean) hx hb hr rfl (kEi0 hw hP hD hK hS) hS.2.2 dX3_hasFloor_17
def wp_X3_hasPerson (p0 : Int32) (v_this_riders : Int32) (v_this_strangers : Int32) (P : Int32 → Prop) : Prop :=
  ((p0 < 0 → ((p0 < (4 : Int32) → P (0 : Int32)) ∧ (¬ p0 < (4 : Int32) → ((((4 : Int32) + v_this_strangers) ≤ p0 → P (0 : Int32)) ∧ (¬ ((4 : Int32) + v_this_strangers) ≤ p0 → P (1 : Int32)))))) ∧ (¬ p0 < 0 → ((p0 < v_this_riders → P (1 : Int32)) ∧ (¬ p0 < v_this_riders → ((p0 < (4 : Int32) → P (0 : Int32)) ∧ (¬ p0 < (4 : Int32) → ((((4 : Int32) + v_this_strangers) ≤ p0 → P (0 : Int32)) ∧ (¬ ((4 : Int32) + v_this_strangers) ≤ p0 → P (1 : Int32)))))))))
theorem hdX3_hasPerson : yX3_hasPerson.cls ≠ "java/lang/invoke/MethodHandle" ∧ yX3_hasPerson.cls ≠ "java/lang/invoke/VarHandle" ∧ (parseMethodDescriptor yX3_hasPerson.desc).map (fun d => d.parameters.length) = some 1 := by decide +kernel
set_option maxHeartbeats 4000000 in
set_option maxRecDepth 100000 in
theorem c_X3_hasPerson (l : Launch) (D : va_G) (cI cJ cZ cR : ClassId) (q_this q_this_wants q_this_stands q_this_wantAt q_this_standAt : Nat) (v_this_floors : Int32) (v_this_riders : Int32) (v_this_strangers : Int32) (p0 : Int32) (P : Int32 → Prop) (hw : wp_X3_hasPerson p0 v_this_riders v_this_strangers P) : kM l yX3_hasPerson cX3_hasPerson 2 (some .boolean) { frames := 0, cells := 0, slots := 0, locals := 0 } D (kTy cI cJ cZ cR) [.ref q_this, .int p0] [ob q_this 2 [.int v_this_floors, .int v_this_riders, .int v_this_strangers, .ref q_this_wants, .ref q_this_stands, .ref q_this_wantAt, .ref q_this_standAt]] (kQi0 D (kTy cI cJ cZ cR) P [ob q_this 2 [.int v_this_floors, .int v_this_riders, .int v_this_strangers, .ref q_this_wants, .ref q_this_stands, .ref q_this_wantAt, .ref q_this_standAt]]) 0 0 := by
  refine kM.of (by decide) (Nat.le_of_ble_eq_true rfl) ?_
  intro p e s m args below meth c A ls hx hb hr ht hown hlocks hml hN hin hA hK hP hD hS hl
  replace hl : lv_has ls 2 [(0, .ref q_this), (1, .int p0)] := hl
  obtain ⟨H, hH⟩ : ∃ H : Heap, H = s.heap := ⟨_, rfl⟩
  obtain ⟨locs, hlc⟩ : ∃ L : List Loc, L = [] := ⟨_, rfl⟩
  replace hP : va_P D kCl [ob q_this 2 [.int v_this_floors, .int v_this_riders, .int v_this_strangers, .ref q_this_wants, .ref q_this_stands, .ref q_this_wantAt, .ref q_this_standAt]] H := by rw [hH]; exact hP
  replace hS : va_S A s.heap H locs := by rw [hH, hlc]; exact hS
  replace hD : va_D A [ob q_this 2 [.int v_this_floors, .int v_this_riders, .int v_this_strangers, .ref q_this_wants, .ref q_this_stands, .ref q_this_wantAt, .ref q_this_standAt]] := hD
  rw [show W p l e _ s m args below meth c s.heap [] 0 0 _ _ = W p l e _ s m args below meth c H locs 0 0 _ _ from by rw [hH, hlc]]
  unfold wp_X3_hasPerson at hw
  refine lv_iload_n hx hb dX3_hasPerson_0 rfl (lv_at hl 1 rfl) ?_
  refine lv_if_lt (tgt := 12) hx hb dX3_hasPerson_1 (by decide) (fun c_1 => ?_) (fun c_1 => ?_)
  · replace hw := hw.1 c_1
    refine lv_iload_n hx hb dX3_hasPerson_12 rfl (lv_at hl 1 rfl) ?_
    refine lv_iconst (v := (4 : Int32)) hx hb dX3_hasPerson_13 (by decide) ?_
    refine lv_icmp_lt (tgt := 31) hx hb dX3_hasPerson_14 (by decide) (fun c_2 => ?_) (fun c_2 => ?_)
    · replace hw := hw.1 c_2
      refine lv_iconst (v := (0 : Int32)) hx hb dX3_hasPerson_31 (by decide) ?_
      exact W.zret (v := (0 : Int32)) (ty := .boolean) hx hb hr rfl (kEi0 hw hP hD hK hS) hS.2.2 dX3_hasPerson_32
    · replace hw := hw.2 c_2
      refine lv_iload_n hx hb dX3_hasPerson_17 rfl (lv_at hl 1 rfl) ?_
      refine lv_iconst (v := (4 : Int32)) hx hb dX3_hasPerson_18 (by decide) ?_
      refine lv_aload_n hx hb dX3_hasPerson_19 rfl (lv_at hl 0 rfl) ?_
      refine va_get (D := D) (ci := 2) (v := .int v_this_strangers) (C := RX3) (T := TX3) (N := 7) hx hb ht inX3 hown hK hP 0 rfl rfl 2 (by decide) (ht _ mw_67) (fun _ h9 => h9) rfl dX3_hasPerson_20 ?_
      refine lv_iadd hx hb dX3_hasPerson_23 ?_
      refine lv_icmp_ge (tgt := 31) hx hb dX3_hasPerson_24 (by decide) (fun c_3 => ?_) (fun c_3 => ?_)
      · replace hw := hw.1 c_3
        refine lv_iconst (v := (0 : Int32)) hx hb dX3_hasPerson_31 (by decide) ?_
        exact W.zret (v := (0 : Int32)) (ty := .boolean) hx hb hr rfl (kEi0 hw hP hD hK hS) hS.2.2 dX3_hasPerson_32
      · replace hw := hw.2 c_3
        refine lv_iconst (v := (1 : Int32)) hx hb dX3_hasPerson_27 (by decide) ?_
        refine lv_goto (tgt := 32) hx hb dX3_hasPerson_28 (by decide) ?_
        exact W.zret (v := (1 : Int32)) (ty := .boolean) hx hb hr rfl (kEi0 hw hP hD hK hS) hS.2.2 dX3_hasPerson_32
  · replace hw := hw.2 c_1
    refine lv_iload_n hx hb dX3_hasPerson_4 rfl (lv_at hl 1 rfl) ?_
    refine lv_aload_n hx hb dX3_hasPerson_5 rfl (lv_at hl 0 rfl) ?_
    refine va_get (D := D) (ci := 2) (v := .int v_this_riders) (C := RX3) (T := TX3) (N := 7) hx hb ht inX3 hown hK hP 0 rfl rfl 1 (by decide) (ht _ mw_64) (fun _ h9 => h9) rfl dX3_hasPerson_6 ?_
    refine lv_icmp_lt (tgt := 27) hx hb dX3_hasPerson_9 (by decide) (fun c_4 => ?_) (fun c_4 => ?_)
    · replace hw := hw.1 c_4
      refine lv_iconst (v := (1 : Int32)) hx hb dX3_hasPerson_27 (by decide) ?_
      refine lv_goto (tgt := 32) hx hb dX3_hasPerson_28 (by decide) ?_
      exact W.zret (v := (1 : Int32)) (ty := .boolean) hx hb hr rfl (kEi0 hw hP hD hK hS) hS.2.2 dX3_hasPerson_32
    · replace hw := hw.2 c_4
      refine lv_iload_n hx hb dX3_hasPerson_12 rfl (lv_at hl 1 rfl) ?_
      refine lv_iconst (v := (4 : Int32)) hx hb dX3_hasPerson_13 (by decide) ?_
      refine lv_icmp_lt (tgt := 31) hx hb dX3_hasPerson_14 (by decide) (fun c_5 => ?_) (fun c_5 => ?_)
      · replace hw := hw.1 c_5
        refine lv_iconst (v := (0 : Int32)) hx hb dX3_hasPerson_31 (by decide) ?_
        exact W.zret (v := (0 : Int32)) (ty := .boolean) hx hb hr rfl (kEi0 hw hP hD hK hS) hS.2.2 dX3_hasPerson_32
      · replace hw := hw.2 c_5
        refine lv_iload_n hx hb dX3_hasPerson_17 rfl (lv_at hl 1 rfl) ?_
        refine lv_iconst (v := (4 : Int32)) hx hb dX3_hasPerson_18 (by decide) ?_
        refine lv_aload_n hx hb dX3_hasPerson_19 rfl (lv_at hl 0 rfl) ?_
        refine va_get (D := D) (ci := 2) (v := .int v_this_strangers) (C := RX3) (T := TX3) (N := 7) hx hb ht inX3 hown hK hP 0 rfl rfl 2 (by decide) (ht _ mw_67) (fun _ h9 => h9) rfl dX3_hasPerson_20 ?_
        refine lv_iadd hx hb dX3_hasPerson_23 ?_
        refine lv_icmp_ge (tgt := 31) hx hb dX3_hasPerson_24 (by decide) (fun c_6 => ?_) (fun c_6 => ?_)
        · replace hw := hw.1 c_6
          refine lv_iconst (v := (0 : Int32)) hx hb dX3_hasPerson_31 (by decide) ?_
          exact W.zret (v := (0 : Int32)) (ty := .boolean) hx hb hr rfl (kEi0 hw hP hD hK hS) hS.2.2 dX3_hasPerson_32
        · replace hw := hw.2 c_6
          refine lv_iconst (v := (1 : Int32)) hx hb dX3_hasPerson_27 (by decide) ?_
          refine lv_goto (tgt := 32) hx hb dX3_hasPerson_28 (by decide) ?_
          exact W.zret (v := (1 : Int32)) (ty := .boolean) hx hb hr rfl (kEi0 hw hP hD hK hS) hS.2.2 dX3_hasPerson_32
def wp_X3_riderBits (v_this_riders : Int32) (P : Int32 → Prop) : Prop :=
  P (((1 : Int32) <<< (v_this_riders &&& 31)) - (1 : Int32))
theorem hdX3_riderBits : yX3_riderBits.cls ≠ "java/lang/invoke/MethodHandle" ∧ yX3_riderBits.cls ≠ "java/lang/invoke/VarHandle" ∧ (parseMethodDescriptor yX3_riderBits.desc).map (fun d => d.parameters.length) = some 0 := by decide +kernel
set_option maxHeartbeats 4000000 in
set_option maxRecDepth 100000 in
theorem c_X3_riderBits (l : Launch) (D : va_G) (cI cJ cZ cR : ClassId) (q_this q_this_wants q_this_stands q_this_wantAt q_this_standAt : Nat) (v_this_floors : Int32) (v_this_riders : Int32) (v_this_strangers : Int32) (P : Int32 → Prop) (hw : wp_X3_riderBits v_this_riders P) : kM l yX3_riderBits cX3_riderBits 1 (some .int) { frames := 0, cells := 0, slots := 0, locals := 0 } D (kTy cI cJ cZ cR) [.ref q_this] [ob q_this 2 [.int v_this_floors, .int v_this_riders, .int v_this_strangers, .ref q_this_wants, .ref q_this_stands, .ref q_this_wantAt, .ref q_this_standAt]] (kQi0 D (kTy cI cJ cZ cR) P [ob q_this 2 [.int v_this_floors, .int v_this_riders, .int v_this_strangers, .ref q_this_wants, .ref q_this_stands, .ref q_this_wantAt, .ref q_this_standAt]]) 0 0 := by
  refine kM.of (by decide) (Nat.le_of_ble_eq_true rfl) ?_
  intro p e s m args below meth c A ls hx hb hr ht hown hlocks hml hN hin hA hK hP hD hS hl
  replace hl : lv_has ls 1 [(0, .ref q_this)] := hl
  obtain ⟨H, hH⟩ : ∃ H : Heap, H = s.heap := ⟨_, rfl⟩
  obtain ⟨locs, hlc⟩ : ∃ L : List Loc, L = [] := ⟨_, rfl⟩
  replace hP : va_P D kCl [ob q_this 2 [.int v_this_floors, .int v_this_riders, .int v_this_strangers, .ref q_this_wants, .ref q_this_stands, .ref q_this_wantAt, .ref q_this_standAt]] H := by rw [hH]; exact hP
  replace hS : va_S A s.heap H locs := by rw [hH, hlc]; exact hS
  replace hD : va_D A [ob q_this 2 [.int v_this_floors, .int v_this_riders, .int v_this_strangers, .ref q_this_wants, .ref q_this_stands, .ref q_this_wantAt, .ref q_this_standAt]] := hD
  rw [show W p l e _ s m args below meth c s.heap [] 0 0 _ _ = W p l e _ s m args below meth c H locs 0 0 _ _ from by rw [hH, hlc]]
  unfold wp_X3_riderBits at hw
  refine lv_iconst (v := (1 : Int32)) hx hb dX3_riderBits_0 (by decide) ?_
  refine lv_aload_n hx hb dX3_riderBits_1 rfl (lv_at hl 0 rfl) ?_
  refine va_get (D := D) (ci := 2) (v := .int v_this_riders) (C := RX3) (T := TX3) (N := 7) hx hb ht inX3 hown hK hP 0 rfl rfl 1 (by decide) (ht _ mw_64) (fun _ h9 => h9) rfl dX3_riderBits_2 ?_
  refine lv_ishl hx hb dX3_riderBits_5 ?_
  refine lv_iconst (v := (1 : Int32)) hx hb dX3_riderBits_6 (by decide) ?_
  refine lv_isub hx hb dX3_riderBits_7 ?_
  exact W.iret (v := (((1 : Int32) <<< (v_this_riders &&& 31)) - (1 : Int32))) hx hb hr (kEi0 hw hP hD hK hS) hS.2.2 dX3_riderBits_8
def wp_X3_hasRiders (p0 : Int32) (v_this_riders : Int32) (P : Int32 → Prop) : Prop :=
  (wp_X3_riderBits v_this_riders (fun r_1 => ((¬ (p0 &&& (r_1 ^^^ (-1 : Int32))) = 0 → P (0 : Int32)) ∧ ((p0 &&& (r_1 ^^^ (-1 : Int32))) = 0 → P (1 : Int32)))))
theorem hdX3_hasRiders : yX3_hasRiders.cls ≠ "java/lang/invoke/MethodHandle" ∧ yX3_hasRiders.cls ≠ "java/lang/invoke/VarHandle" ∧ (parseMethodDescriptor yX3_hasRiders.desc).map (fun d => d.parameters.length) = some 1 := by decide +kernel
set_option maxHeartbeats 4000000 in
set_option maxRecDepth 100000 in
theorem c_X3_hasRiders (l : Launch) (D : va_G) (cI cJ cZ cR : ClassId) (q_this q_this_wants q_this_stands q_this_wantAt q_this_standAt : Nat) (v_this_floors : Int32) (v_this_riders : Int32) (v_this_strangers : Int32) (p0 : Int32) (P : Int32 → Prop) (hw : wp_X3_hasRiders p0 v_this_riders P) : kM l yX3_hasRiders cX3_hasRiders 2 (some .boolean) { frames := 1, cells := 0, slots := 0, locals := 20 } D (kTy cI cJ cZ cR) [.ref q_this, .int p0] [ob q_this 2 [.int v_this_floors, .int v_this_riders, .int v_this_strangers, .ref q_this_wants, .ref q_this_stands, .ref q_this_wantAt, .ref q_this_standAt]] (kQi0 D (kTy cI cJ cZ cR) P [ob q_this 2 [.int v_this_floors, .int v_this_riders, .int v_this_strangers, .ref q_this_wants, .ref q_this_stands, .ref q_this_wantAt, .ref q_this_standAt]]) 0 0 := by
  refine kM.of (by decide) (Nat.le_of_ble_eq_true rfl) ?_
  intro p e s m args below meth c A ls hx hb hr ht hown hlocks hml hN hin hA hK hP hD hS hl
  replace hl : lv_has ls 2 [(0, .ref q_this), (1, .int p0)] := hl
  obtain ⟨H, hH⟩ : ∃ H : Heap, H = s.heap := ⟨_, rfl⟩
  obtain ⟨locs, hlc⟩ : ∃ L : List Loc, L = [] := ⟨_, rfl⟩
  replace hP : va_P D kCl [ob q_this 2 [.int v_this_floors, .int v_this_riders, .int v_this_strangers, .ref q_this_wants, .ref q_this_stands, .ref q_this_wantAt, .ref q_this_standAt]] H := by rw [hH]; exact hP
  replace hS : va_S A s.heap H locs := by rw [hH, hlc]; exact hS
  replace hD : va_D A [ob q_this 2 [.int v_this_floors, .int v_this_riders, .int v_this_strangers, .ref q_this_wants, .ref q_this_stands, .ref q_this_wantAt, .ref q_this_standAt]] := hD
  rw [show W p l e _ s m args below meth c s.heap [] 0 0 _ _ = W p l e _ s m args below meth c H locs 0 0 _ _ from by rw [hH, hlc]]
  unfold wp_X3_hasRiders at hw
  refine lv_iload_n hx hb dX3_hasRiders_0 rfl (lv_at hl 1 rfl) ?_
  refine lv_aload_n hx hb dX3_hasRiders_1 rfl (lv_at hl 0 rfl) ?_
  refine kCi0 (kRV hx hb hml hown ht hN hK hP hD (c_X3_riderBits l D cI cJ cZ cR q_this q_this_wants q_this_stands q_this_wantAt q_this_standAt v_this_floors v_this_riders v_this_strangers _ hw) [0] rfl rfl (T := TX3) (N := 7) rfl rfl mw_600 mw_601 mw_602 mw_5 mw_603 hdX3_riderBits ⟨Nat.le_of_ble_eq_true rfl, Nat.le_of_ble_eq_true rfl⟩ ⟨rfl, rfl⟩ hl.1 rfl (Nat.le_of_ble_eq_true rfl) dX3_hasRiders_2 ⟨Nat.zero_le _, Nat.zero_le _⟩) hP hD hS hA [0] [] [0] rfl rfl rfl rfl [ob q_this 2 [.int v_this_floors, .int v_this_riders, .int v_this_strangers, .ref q_this_wants, .ref q_this_stands, .ref q_this_wantAt, .ref q_this_standAt]] rfl rfl (fun r_1 H locs hw hP hD hS => ?_)
  refine lv_iconst (v := (-1 : Int32)) hx hb dX3_hasRiders_5 (by decide) ?_
  refine lv_ixor hx hb dX3_hasRiders_6 ?_
  refine lv_iand hx hb dX3_hasRiders_7 ?_
  refine lv_if_ne (tgt := 15) hx hb dX3_hasRiders_8 (by decide) (fun c_2 => ?_) (fun c_2 => ?_)
  · replace hw := hw.1 c_2
    refine lv_iconst (v := (0 : Int32)) hx hb dX3_hasRiders_15 (by decide) ?_
    exact W.zret (v := (0 : Int32)) (ty := .boolean) hx hb hr rfl (kEi0 hw hP hD hK hS) hS.2.2 dX3_hasRiders_16
  · replace hw := hw.2 c_2
    refine lv_iconst (v := (1 : Int32)) hx hb dX3_hasRiders_11 (by decide) ?_
    refine lv_goto (tgt := 16) hx hb dX3_hasRiders_12 (by decide) ?_
    exact W.zret (v := (1 : Int32)) (ty := .boolean) hx hb hr rfl (kEi0 hw hP hD hK hS) hS.2.2 dX3_hasRiders_16
def wp_X3_people (v_this_riders : Int32) (v_this_strangers : Int32) (P : Int32 → Prop) : Prop :=
  P (v_this_riders + v_this_strangers)
theorem hdX3_people : yX3_people.cls ≠ "java/lang/invoke/MethodHandle" ∧ yX3_people.cls ≠ "java/lang/invoke/VarHandle" ∧ (parseMethodDescriptor yX3_people.desc).map (fun d => d.parameters.length) = some 0 := by decide +kernel
set_option maxHeartbeats 4000000 in
set_option maxRecDepth 100000 in
theorem c_X3_people (l : Launch) (D : va_G) (cI cJ cZ cR : ClassId) (q_this q_this_wants q_this_stands q_this_wantAt q_this_standAt : Nat) (v_this_floors : Int32) (v_this_riders : Int32) (v_this_strangers : Int32) (P : Int32 → Prop) (hw : wp_X3_people v_this_riders v_this_strangers P) : kM l yX3_people cX3_people 1 (some .int) { frames := 0, cells := 0, slots := 0, locals := 0 } D (kTy cI cJ cZ cR) [.ref q_this] [ob q_this 2 [.int v_this_floors, .int v_this_riders, .int v_this_strangers, .ref q_this_wants, .ref q_this_stands, .ref q_this_wantAt, .ref q_this_standAt]] (kQi0 D (kTy cI cJ cZ cR) P [ob q_this 2 [.int v_this_floors, .int v_this_riders, .int v_this_strangers, .ref q_this_wants, .ref q_this_stands, .ref q_this_wantAt, .ref q_this_standAt]]) 0 0 := by
  refine kM.of (by decide) (Nat.le_of_ble_eq_true rfl) ?_
  intro p e s m args below meth c A ls hx hb hr ht hown hlocks hml hN hin hA hK hP hD hS hl
  replace hl : lv_has ls 1 [(0, .ref q_this)] := hl
  obtain ⟨H, hH⟩ : ∃ H : Heap, H = s.heap := ⟨_, rfl⟩
  obtain ⟨locs, hlc⟩ : ∃ L : List Loc, L = [] := ⟨_, rfl⟩
  replace hP : va_P D kCl [ob q_this 2 [.int v_this_floors, .int v_this_riders, .int v_this_strangers, .ref q_this_wants, .ref q_this_stands, .ref q_this_wantAt, .ref q_this_standAt]] H := by rw [hH]; exact hP
  replace hS : va_S A s.heap H locs := by rw [hH, hlc]; exact hS
  replace hD : va_D A [ob q_this 2 [.int v_this_floors, .int v_this_riders, .int v_this_strangers, .ref q_this_wants, .ref q_this_stands, .ref q_this_wantAt, .ref q_this_standAt]] := hD
  rw [show W p l e _ s m args below meth c s.heap [] 0 0 _ _ = W p l e _ s m args below meth c H locs 0 0 _ _ from by rw [hH, hlc]]
  unfold wp_X3_people at hw
  refine lv_aload_n hx hb dX3_people_0 rfl (lv_at hl 0 rfl) ?_
  refine va_get (D := D) (ci := 2) (v := .int v_this_riders) (C := RX3) (T := TX3) (N := 7) hx hb ht inX3 hown hK hP 0 rfl rfl 1 (by decide) (ht _ mw_64) (fun _ h9 => h9) rfl dX3_people_1 ?_
  refine lv_aload_n hx hb dX3_people_4 rfl (lv_at hl 0 rfl) ?_
  refine va_get (D := D) (ci := 2) (v := .int v_this_strangers) (C := RX3) (T := TX3) (N := 7) hx hb ht inX3 hown hK hP 0 rfl rfl 2 (by decide) (ht _ mw_67) (fun _ h9 => h9) rfl dX3_people_5 ?_
  refine lv_iadd hx hb dX3_people_8 ?_
  exact W.iret (v := (v_this_riders + v_this_strangers)) hx hb hr (kEi0 hw hP hD hK hS) hS.2.2 dX3_people_9
def wp_X3_wantOf (p0 : Int32) (f_this_wants : Nat → Int32) (P : Int32 → Prop) : Prop :=
  (wp_X10_at p0 4 f_this_wants (fun r_1 => P r_1))
theorem hdX3_wantOf : yX3_wantOf.cls ≠ "java/lang/invoke/MethodHandle" ∧ yX3_wantOf.cls ≠ "java/lang/invoke/VarHandle" ∧ (parseMethodDescriptor yX3_wantOf.desc).map (fun d => d.parameters.length) = some 1 := by decide +kernel
set_option maxHeartbeats 4000000 in
set_option maxRecDepth 100000 in
theorem c_X3_wantOf (l : Launch) (D : va_G) (cI cJ cZ cR : ClassId) (q_this q_this_wants q_this_stands q_this_wantAt q_this_standAt : Nat) (v_this_floors : Int32) (v_this_riders : Int32) (v_this_strangers : Int32) (f_this_wants : Nat → Int32) (p0 : Int32) (P : Int32 → Prop) (hw : wp_X3_wantOf p0 f_this_wants P) : kM l yX3_wantOf cX3_wantOf 2 (some .int) { frames := 1, cells := 0, slots := 0, locals := 21 } D (kTy cI cJ cZ cR) [.ref q_this, .int p0] [ob q_this 2 [.int v_this_floors, .int v_this_riders, .int v_this_strangers, .ref q_this_wants, .ref q_this_stands, .ref q_this_wantAt, .ref q_this_standAt], aI cI q_this_wants 4 f_this_wants] (kQi0 D (kTy cI cJ cZ cR) P [ob q_this 2 [.int v_this_floors, .int v_this_riders, .int v_this_strangers, .ref q_this_wants, .ref q_this_stands, .ref q_this_wantAt, .ref q_this_standAt], aI cI q_this_wants 4 f_this_wants]) 0 0 := by
  refine kM.of (by decide) (Nat.le_of_ble_eq_true rfl) ?_
  intro p e s m args below meth c A ls hx hb hr ht hown hlocks hml hN hin hA hK hP hD hS hl
  replace hl : lv_has ls 2 [(0, .ref q_this), (1, .int p0)] := hl
  obtain ⟨H, hH⟩ : ∃ H : Heap, H = s.heap := ⟨_, rfl⟩
  obtain ⟨locs, hlc⟩ : ∃ L : List Loc, L = [] := ⟨_, rfl⟩
  replace hP : va_P D kCl [ob q_this 2 [.int v_this_floors, .int v_this_riders, .int v_this_strangers, .ref q_this_wants, .ref q_this_stands, .ref q_this_wantAt, .ref q_this_standAt], aI cI q_this_wants 4 f_this_wants] H := by rw [hH]; exact hP
  replace hS : va_S A s.heap H locs := by rw [hH, hlc]; exact hS
  replace hD : va_D A [ob q_this 2 [.int v_this_floors, .int v_this_riders, .int v_this_strangers, .ref q_this_wants, .ref q_this_stands, .ref q_this_wantAt, .ref q_this_standAt], aI cI q_this_wants 4 f_this_wants] := hD
  rw [show W p l e _ s m args below meth c s.heap [] 0 0 _ _ = W p l e _ s m args below meth c H locs 0 0 _ _ from by rw [hH, hlc]]
  unfold wp_X3_wantOf at hw
  refine lv_aload_n hx hb dX3_wantOf_0 rfl (lv_at hl 0 rfl) ?_
  refine va_get (D := D) (ci := 2) (v := .ref q_this_wants) (C := RX3) (T := TX3) (N := 7) hx hb ht inX3 hown hK hP 0 rfl rfl 3 (by decide) (ht _ mw_70) (fun _ h9 => h9) rfl dX3_wantOf_1 ?_
  refine lv_iload_n hx hb dX3_wantOf_4 rfl (lv_at hl 1 rfl) ?_
  refine kCi0 (kRSN hx hb hml hown ht hN hK hP hD (c_X10_at l D cI cJ cZ cR q_this_wants 4 f_this_wants p0 _ hw) [1] rfl rfl mn_330 mw_286 mw_1 mw_287 hdX10_at ⟨Nat.le_of_ble_eq_true rfl, Nat.le_of_ble_eq_true rfl⟩ ⟨rfl, rfl⟩ hl.1 rfl (Nat.le_of_ble_eq_true rfl) dX3_wantOf_5 ⟨Nat.zero_le _, Nat.zero_le _⟩) hP hD hS hA [1] [0] [0, 1] rfl rfl rfl rfl [ob q_this 2 [.int v_this_floors, .int v_this_riders, .int v_this_strangers, .ref q_this_wants, .ref q_this_stands, .ref q_this_wantAt, .ref q_this_standAt], aI cI q_this_wants 4 f_this_wants] rfl rfl (fun r_1 H locs hw hP hD hS => ?_)
  exact W.iret (v := r_1) hx hb hr (kEi0 hw hP hD hK hS) hS.2.2 dX3_wantOf_8
def wp_X8_strangersAt (p0 : Int32) (p1 : Int32) (P : Int32 → Prop) : Prop :=
  ((¬ ((p0 >>> ((8 : Int32) &&& 31)) &&& (7 : Int32)) = p1 → ((¬ ((p0 >>> ((11 : Int32) &&& 31)) &&& (7 : Int32)) = p1 → P ((0 : Int32) ||| (0 : Int32))) ∧ (((p0 >>> ((11 : Int32) &&& 31)) &&& (7 : Int32)) = p1 → P ((0 : Int32) ||| (32 : Int32))))) ∧ (((p0 >>> ((8 : Int32) &&& 31)) &&& (7 : Int32)) = p1 → ((¬ ((p0 >>> ((11 : Int32) &&& 31)) &&& (7 : Int32)) = p1 → P ((16 : Int32) ||| (0 : Int32))) ∧ (((p0 >>> ((11 : Int32) &&& 31)) &&& (7 : Int32)) = p1 → P ((16 : Int32) ||| (32 : Int32))))))
theorem hdX8_strangersAt : yX8_strangersAt.cls ≠ "java/lang/invoke/MethodHandle" ∧ yX8_strangersAt.cls ≠ "java/lang/invoke/VarHandle" ∧ (parseMethodDescriptor yX8_strangersAt.desc).map (fun d => d.parameters.length) = some 2 := by decide +kernel
set_option maxHeartbeats 4000000 in
set_option maxRecDepth 100000 in
theorem c_X8_strangersAt (l : Launch) (D : va_G) (cI cJ cZ cR : ClassId) (p0 : Int32) (p1 : Int32) (P : Int32 → Prop) (hw : wp_X8_strangersAt p0 p1 P) : kM l yX8_strangersAt cX8_strangersAt 4 (some .int) { frames := 0, cells := 0, slots := 0, locals := 0 } D (kTy cI cJ cZ cR) [.int p0, .int p1] [] (kQi0 D (kTy cI cJ cZ cR) P []) 0 0 := by
  refine kM.of (by decide) (Nat.le_of_ble_eq_true rfl) ?_
  intro p e s m args below meth c A ls hx hb hr ht hown hlocks hml hN hin hA hK hP hD hS hl
  replace hl : lv_has ls 4 [(0, .int p0), (1, .int p1)] := hl
  obtain ⟨H, hH⟩ : ∃ H : Heap, H = s.heap := ⟨_, rfl⟩
  obtain ⟨locs, hlc⟩ : ∃ L : List Loc, L = [] := ⟨_, rfl⟩
  replace hP : va_P D kCl [] H := by rw [hH]; exact hP
  replace hS : va_S A s.heap H locs := by rw [hH, hlc]; exact hS
  replace hD : va_D A [] := hD
  rw [show W p l e _ s m args below meth c s.heap [] 0 0 _ _ = W p l e _ s m args below meth c H locs 0 0 _ _ from by rw [hH, hlc]]
  unfold wp_X8_strangersAt at hw
  refine lv_iload_n hx hb dX8_strangersAt_0 rfl (lv_at hl 0 rfl) ?_
  refine lv_bipush (v := (8 : Int32)) hx hb dX8_strangersAt_1 (by decide) ?_
  refine lv_ishr hx hb dX8_strangersAt_3 ?_
  refine lv_bipush (v := (7 : Int32)) hx hb dX8_strangersAt_4 (by decide) ?_
  refine lv_iand hx hb dX8_strangersAt_6 ?_
  refine lv_iload_n hx hb dX8_strangersAt_7 rfl (lv_at hl 1 rfl) ?_
  refine lv_icmp_ne (tgt := 16) hx hb dX8_strangersAt_8 (by decide) (fun c_1 => ?_) (fun c_1 => ?_)
  · replace hw := hw.1 c_1
    refine lv_iconst (v := (0 : Int32)) hx hb dX8_strangersAt_16 (by decide) ?_
    refine lv_istore_n (lv' := [(2, .int (0 : Int32)), (0, .int p0), (1, .int p1)]) hx hb dX8_strangersAt_17 rfl hl (by decide) rfl (fun ls hl => ?_)
    refine lv_iload_n hx hb dX8_strangersAt_18 rfl (lv_at hl 1 rfl) ?_
    refine lv_bipush (v := (11 : Int32)) hx hb dX8_strangersAt_19 (by decide) ?_
    refine lv_ishr hx hb dX8_strangersAt_21 ?_
    refine lv_bipush (v := (7 : Int32)) hx hb dX8_strangersAt_22 (by decide) ?_
    refine lv_iand hx hb dX8_strangersAt_24 ?_
    refine lv_iload_n hx hb dX8_strangersAt_25 rfl (lv_at hl 2 rfl) ?_
    refine lv_icmp_ne (tgt := 34) hx hb dX8_strangersAt_26 (by decide) (fun c_2 => ?_) (fun c_2 => ?_)
    · replace hw := hw.1 c_2
      refine lv_iconst (v := (0 : Int32)) hx hb dX8_strangersAt_34 (by decide) ?_
      refine lv_istore_n (lv' := [(3, .int (0 : Int32)), (2, .int (0 : Int32)), (0, .int p0), (1, .int p1)]) hx hb dX8_strangersAt_35 rfl hl (by decide) rfl (fun ls hl => ?_)
      refine lv_iload_n hx hb dX8_strangersAt_36 rfl (lv_at hl 1 rfl) ?_
      refine lv_iload_n hx hb dX8_strangersAt_37 rfl (lv_at hl 0 rfl) ?_
      refine lv_ior hx hb dX8_strangersAt_38 ?_
      exact W.iret (v := ((0 : Int32) ||| (0 : Int32))) hx hb hr (kEi0 hw hP hD hK hS) hS.2.2 dX8_strangersAt_39
    · replace hw := hw.2 c_2
      refine lv_bipush (v := (32 : Int32)) hx hb dX8_strangersAt_29 (by decide) ?_
      refine lv_goto (tgt := 35) hx hb dX8_strangersAt_31 (by decide) ?_
      refine lv_istore_n (lv' := [(3, .int (32 : Int32)), (2, .int (0 : Int32)), (0, .int p0), (1, .int p1)]) hx hb dX8_strangersAt_35 rfl hl (by decide) rfl (fun ls hl => ?_)
      refine lv_iload_n hx hb dX8_strangersAt_36 rfl (lv_at hl 1 rfl) ?_
      refine lv_iload_n hx hb dX8_strangersAt_37 rfl (lv_at hl 0 rfl) ?_
      refine lv_ior hx hb dX8_strangersAt_38 ?_
      exact W.iret (v := ((0 : Int32) ||| (32 : Int32))) hx hb hr (kEi0 hw hP hD hK hS) hS.2.2 dX8_strangersAt_39
  · replace hw := hw.2 c_1
    refine lv_bipush (v := (16 : Int32)) hx hb dX8_strangersAt_11 (by decide) ?_
    refine lv_goto (tgt := 17) hx hb dX8_strangersAt_13 (by decide) ?_
    refine lv_istore_n (lv' := [(2, .int (16 : Int32)), (0, .int p0), (1, .int p1)]) hx hb dX8_strangersAt_17 rfl hl (by decide) rfl (fun ls hl => ?_)
    refine lv_iload_n hx hb dX8_strangersAt_18 rfl (lv_at hl 1 rfl) ?_
    refine lv_bipush (v := (11 : Int32)) hx hb dX8_strangersAt_19 (by decide) ?_
    refine lv_ishr hx hb dX8_strangersAt_21 ?_
    refine lv_bipush (v := (7 : Int32)) hx hb dX8_strangersAt_22 (by decide) ?_
    refine lv_iand hx hb dX8_strangersAt_24 ?_
    refine lv_iload_n hx hb dX8_strangersAt_25 rfl (lv_at hl 2 rfl) ?_
    refine lv_icmp_ne (tgt := 34) hx hb dX8_strangersAt_26 (by decide) (fun c_3 => ?_) (fun c_3 => ?_)
    · replace hw := hw.1 c_3
      refine lv_iconst (v := (0 : Int32)) hx hb dX8_strangersAt_34 (by decide) ?_
      refine lv_istore_n (lv' := [(3, .int (0 : Int32)), (2, .int (16 : Int32)), (0, .int p0), (1, .int p1)]) hx hb dX8_strangersAt_35 rfl hl (by decide) rfl (fun ls hl => ?_)
      refine lv_iload_n hx hb dX8_strangersAt_36 rfl (lv_at hl 1 rfl) ?_
      refine lv_iload_n hx hb dX8_strangersAt_37 rfl (lv_at hl 0 rfl) ?_
      refine lv_ior hx hb dX8_strangersAt_38 ?_
      exact W.iret (v := ((16 : Int32) ||| (0 : Int32))) hx hb hr (kEi0 hw hP hD hK hS) hS.2.2 dX8_strangersAt_39
    · replace hw := hw.2 c_3
      refine lv_bipush (v := (32 : Int32)) hx hb dX8_strangersAt_29 (by decide) ?_
      refine lv_goto (tgt := 35) hx hb dX8_strangersAt_31 (by decide) ?_
      refine lv_istore_n (lv' := [(3, .int (32 : Int32)), (2, .int (16 : Int32)), (0, .int p0), (1, .int p1)]) hx hb dX8_strangersAt_35 rfl hl (by decide) rfl (fun ls hl => ?_)
      refine lv_iload_n hx hb dX8_strangersAt_36 rfl (lv_at hl 1 rfl) ?_
      refine lv_iload_n hx hb dX8_strangersAt_37 rfl (lv_at hl 0 rfl) ?_
      refine lv_ior hx hb dX8_strangersAt_38 ?_
      exact W.iret (v := ((16 : Int32) ||| (32 : Int32))) hx hb hr (kEi0 hw hP hD hK hS) hS.2.2 dX8_strangersAt_39
def wp_X3_mayLeave (p0 : Int32) (p1 : Int32) (f_this_wantAt : Nat → Int32) (P : Int32 → Prop) : Prop :=
  (wp_X10_at p1 6 f_this_wantAt (fun r_1 => (wp_X8_strangersAt p0 (7 : Int32) (fun r_2 => P ((p0 &&& r_1) ||| r_2)))))
theorem hdX3_mayLeave : yX3_mayLeave.cls ≠ "java/lang/invoke/MethodHandle" ∧ yX3_mayLeave.cls ≠ "java/lang/invoke/VarHandle" ∧ (parseMethodDescriptor yX3_mayLeave.desc).map (fun d => d.parameters.length) = some 2 := by decide +kernel
set_option maxHeartbeats 4000000 in
set_option maxRecDepth 100000 in
theorem c_X3_mayLeave (l : Launch) (D : va_G) (cI cJ cZ cR : ClassId) (q_this q_this_wants q_this_stands q_this_wantAt q_this_standAt : Nat) (v_this_floors : Int32) (v_this_riders : Int32) (v_this_strangers : Int32) (f_this_wantAt : Nat → Int32) (p0 : Int32) (p1 : Int32) (P : Int32 → Prop) (hw : wp_X3_mayLeave p0 p1 f_this_wantAt P) : kM l yX3_mayLeave cX3_mayLeave 3 (some .int) { frames := 1, cells := 0, slots := 0, locals := 23 } D (kTy cI cJ cZ cR) [.ref q_this, .int p0, .int p1] [ob q_this 2 [.int v_this_floors, .int v_this_riders, .int v_this_strangers, .ref q_this_wants, .ref q_this_stands, .ref q_this_wantAt, .ref q_this_standAt], aI cI q_this_wantAt 6 f_this_wantAt] (kQi0 D (kTy cI cJ cZ cR) P [ob q_this 2 [.int v_this_floors, .int v_this_riders, .int v_this_strangers, .ref q_this_wants, .ref q_this_stands, .ref q_this_wantAt, .ref q_this_standAt], aI cI q_this_wantAt 6 f_this_wantAt]) 0 0 := by
  refine kM.of (by decide) (Nat.le_of_ble_eq_true rfl) ?_
  intro p e s m args below meth c A ls hx hb hr ht hown hlocks hml hN hin hA hK hP hD hS hl
  replace hl : lv_has ls 3 [(0, .ref q_this), (1, .int p0), (2, .int p1)] := hl
  obtain ⟨H, hH⟩ : ∃ H : Heap, H = s.heap := ⟨_, rfl⟩
  obtain ⟨locs, hlc⟩ : ∃ L : List Loc, L = [] := ⟨_, rfl⟩
  replace hP : va_P D kCl [ob q_this 2 [.int v_this_floors, .int v_this_riders, .int v_this_strangers, .ref q_this_wants, .ref q_this_stands, .ref q_this_wantAt, .ref q_this_standAt], aI cI q_this_wantAt 6 f_this_wantAt] H := by rw [hH]; exact hP
  replace hS : va_S A s.heap H locs := by rw [hH, hlc]; exact hS
  replace hD : va_D A [ob q_this 2 [.int v_this_floors, .int v_this_riders, .int v_this_strangers, .ref q_this_wants, .ref q_this_stands, .ref q_this_wantAt, .ref q_this_standAt], aI cI q_this_wantAt 6 f_this_wantAt] := hD
  rw [show W p l e _ s m args below meth c s.heap [] 0 0 _ _ = W p l e _ s m args below meth c H locs 0 0 _ _ from by rw [hH, hlc]]
  unfold wp_X3_mayLeave at hw
  refine lv_iload_n hx hb dX3_mayLeave_0 rfl (lv_at hl 1 rfl) ?_
  refine lv_aload_n hx hb dX3_mayLeave_1 rfl (lv_at hl 0 rfl) ?_
  refine va_get (D := D) (ci := 2) (v := .ref q_this_wantAt) (C := RX3) (T := TX3) (N := 7) hx hb ht inX3 hown hK hP 0 rfl rfl 5 (by decide) (ht _ mw_72) (fun _ h9 => h9) rfl dX3_mayLeave_2 ?_
  refine lv_iload_n hx hb dX3_mayLeave_5 rfl (lv_at hl 2 rfl) ?_
  refine kCi0 (kRSN hx hb hml hown ht hN hK hP hD (c_X10_at l D cI cJ cZ cR q_this_wantAt 6 f_this_wantAt p1 _ hw) [1] rfl rfl mn_330 mw_286 mw_1 mw_287 hdX10_at ⟨Nat.le_of_ble_eq_true rfl, Nat.le_of_ble_eq_true rfl⟩ ⟨rfl, rfl⟩ hl.1 rfl (Nat.le_of_ble_eq_true rfl) dX3_mayLeave_6 ⟨Nat.zero_le _, Nat.zero_le _⟩) hP hD hS hA [1] [0] [0, 1] rfl rfl rfl rfl [ob q_this 2 [.int v_this_floors, .int v_this_riders, .int v_this_strangers, .ref q_this_wants, .ref q_this_stands, .ref q_this_wantAt, .ref q_this_standAt], aI cI q_this_wantAt 6 f_this_wantAt] rfl rfl (fun r_1 H locs hw hP hD hS => ?_)
  refine lv_iand hx hb dX3_mayLeave_9 ?_
  refine lv_iload_n hx hb dX3_mayLeave_10 rfl (lv_at hl 1 rfl) ?_
  refine lv_bipush (v := (7 : Int32)) hx hb dX3_mayLeave_11 (by decide) ?_
  refine kCi0 (kRS hx hb hml hown ht hN hK hP hD (c_X8_strangersAt l D cI cJ cZ cR p0 (7 : Int32) _ hw) [] rfl rfl mw_475 mw_392 mw_12 mw_393 hdX8_strangersAt ⟨Nat.le_of_ble_eq_true rfl, Nat.le_of_ble_eq_true rfl⟩ ⟨rfl, rfl⟩ hl.1 rfl (Nat.le_of_ble_eq_true rfl) dX3_mayLeave_13 ⟨Nat.zero_le _, Nat.zero_le _⟩) hP hD hS hA [] [0, 1] [0, 1] rfl rfl rfl rfl [ob q_this 2 [.int v_this_floors, .int v_this_riders, .int v_this_strangers, .ref q_this_wants, .ref q_this_stands, .ref q_this_wantAt, .ref q_this_standAt], aI cI q_this_wantAt 6 f_this_wantAt] rfl rfl (fun r_2 H locs hw hP hD hS => ?_)
  refine lv_ior hx hb dX3_mayLeave_16 ?_
  exact W.iret (v := ((p0 &&& r_1) ||| r_2)) hx hb hr (kEi0 hw hP hD hK hS) hS.2.2 dX3_mayLeave_17
def wp_X8_goneIn (p0 : Int32) (P : Int32 → Prop) : Prop :=
  P ((p0 ||| (p0 >>> ((4 : Int32) &&& 31))) &&& (15 : Int32))
theorem hdX8_goneIn : yX8_goneIn.cls ≠ "java/lang/invoke/MethodHandle" ∧ yX8_goneIn.cls ≠ "java/lang/invoke/VarHandle" ∧ (parseMethodDescriptor yX8_goneIn.desc).map (fun d => d.parameters.length) = some 1 := by decide +kernel
set_option maxHeartbeats 4000000 in
set_option maxRecDepth 100000 in
theorem c_X8_goneIn (l : Launch) (D : va_G) (cI cJ cZ cR : ClassId) (p0 : Int32) (P : Int32 → Prop) (hw : wp_X8_goneIn p0 P) : kM l yX8_goneIn cX8_goneIn 1 (some .int) { frames := 0, cells := 0, slots := 0, locals := 0 } D (kTy cI cJ cZ cR) [.int p0] [] (kQi0 D (kTy cI cJ cZ cR) P []) 0 0 := by
  refine kM.of (by decide) (Nat.le_of_ble_eq_true rfl) ?_
  intro p e s m args below meth c A ls hx hb hr ht hown hlocks hml hN hin hA hK hP hD hS hl
  replace hl : lv_has ls 1 [(0, .int p0)] := hl
  obtain ⟨H, hH⟩ : ∃ H : Heap, H = s.heap := ⟨_, rfl⟩
  obtain ⟨locs, hlc⟩ : ∃ L : List Loc, L = [] := ⟨_, rfl⟩
  replace hP : va_P D kCl [] H := by rw [hH]; exact hP
  replace hS : va_S A s.heap H locs := by rw [hH, hlc]; exact hS
  replace hD : va_D A [] := hD
  rw [show W p l e _ s m args below meth c s.heap [] 0 0 _ _ = W p l e _ s m args below meth c H locs 0 0 _ _ from by rw [hH, hlc]]
  unfold wp_X8_goneIn at hw
  refine lv_iload_n hx hb dX8_goneIn_0 rfl (lv_at hl 0 rfl) ?_
  refine lv_iload_n hx hb dX8_goneIn_1 rfl (lv_at hl 0 rfl) ?_
  refine lv_iconst (v := (4 : Int32)) hx hb dX8_goneIn_2 (by decide) ?_
  refine lv_ishr hx hb dX8_goneIn_3 ?_
  refine lv_ior hx hb dX8_goneIn_4 ?_
  refine lv_bipush (v := (15 : Int32)) hx hb dX8_goneIn_5 (by decide) ?_
  refine lv_iand hx hb dX8_goneIn_7 ?_
  exact W.iret (v := ((p0 ||| (p0 >>> ((4 : Int32) &&& 31))) &&& (15 : Int32))) hx hb hr (kEi0 hw hP hD hK hS) hS.2.2 dX8_goneIn_8
def wp_X3_mayEnter (p0 : Int32) (p1 : Int32) (f_this_standAt : Nat → Int32) (P : Int32 → Prop) : Prop :=
  (wp_X10_at p1 6 f_this_standAt (fun r_1 => (wp_X8_goneIn p0 (fun r_2 => (wp_X8_strangersAt p0 p1 (fun r_3 => P ((r_1 &&& (r_2 ^^^ (-1 : Int32))) ||| r_3)))))))
theorem hdX3_mayEnter : yX3_mayEnter.cls ≠ "java/lang/invoke/MethodHandle" ∧ yX3_mayEnter.cls ≠ "java/lang/invoke/VarHandle" ∧ (parseMethodDescriptor yX3_mayEnter.desc).map (fun d => d.parameters.length) = some 2 := by decide +kernel
set_option maxHeartbeats 4000000 in
set_option maxRecDepth 100000 in
theorem c_X3_mayEnter (l : Launch) (D : va_G) (cI cJ cZ cR : ClassId) (q_this q_this_wants q_this_stands q_this_wantAt q_this_standAt : Nat) (v_this_floors : Int32) (v_this_riders : Int32) (v_this_strangers : Int32) (f_this_standAt : Nat → Int32) (p0 : Int32) (p1 : Int32) (P : Int32 → Prop) (hw : wp_X3_mayEnter p0 p1 f_this_standAt P) : kM l yX3_mayEnter cX3_mayEnter 3 (some .int) { frames := 1, cells := 0, slots := 0, locals := 23 } D (kTy cI cJ cZ cR) [.ref q_this, .int p0, .int p1] [ob q_this 2 [.int v_this_floors, .int v_this_riders, .int v_this_strangers, .ref q_this_wants, .ref q_this_stands, .ref q_this_wantAt, .ref q_this_standAt], aI cI q_this_standAt 6 f_this_standAt] (kQi0 D (kTy cI cJ cZ cR) P [ob q_this 2 [.int v_this_floors, .int v_this_riders, .int v_this_strangers, .ref q_this_wants, .ref q_this_stands, .ref q_this_wantAt, .ref q_this_standAt], aI cI q_this_standAt 6 f_this_standAt]) 0 0 := by
  refine kM.of (by decide) (Nat.le_of_ble_eq_true rfl) ?_
  intro p e s m args below meth c A ls hx hb hr ht hown hlocks hml hN hin hA hK hP hD hS hl
  replace hl : lv_has ls 3 [(0, .ref q_this), (1, .int p0), (2, .int p1)] := hl
  obtain ⟨H, hH⟩ : ∃ H : Heap, H = s.heap := ⟨_, rfl⟩
  obtain ⟨locs, hlc⟩ : ∃ L : List Loc, L = [] := ⟨_, rfl⟩
  replace hP : va_P D kCl [ob q_this 2 [.int v_this_floors, .int v_this_riders, .int v_this_strangers, .ref q_this_wants, .ref q_this_stands, .ref q_this_wantAt, .ref q_this_standAt], aI cI q_this_standAt 6 f_this_standAt] H := by rw [hH]; exact hP
  replace hS : va_S A s.heap H locs := by rw [hH, hlc]; exact hS
  replace hD : va_D A [ob q_this 2 [.int v_this_floors, .int v_this_riders, .int v_this_strangers, .ref q_this_wants, .ref q_this_stands, .ref q_this_wantAt, .ref q_this_standAt], aI cI q_this_standAt 6 f_this_standAt] := hD
  rw [show W p l e _ s m args below meth c s.heap [] 0 0 _ _ = W p l e _ s m args below meth c H locs 0 0 _ _ from by rw [hH, hlc]]
  unfold wp_X3_mayEnter at hw
  refine lv_aload_n hx hb dX3_mayEnter_0 rfl (lv_at hl 0 rfl) ?_
  refine va_get (D := D) (ci := 2) (v := .ref q_this_standAt) (C := RX3) (T := TX3) (N := 7) hx hb ht inX3 hown hK hP 0 rfl rfl 6 (by decide) (ht _ mw_73) (fun _ h9 => h9) rfl dX3_mayEnter_1 ?_
  refine lv_iload_n hx hb dX3_mayEnter_4 rfl (lv_at hl 2 rfl) ?_
  refine kCi0 (kRSN hx hb hml hown ht hN hK hP hD (c_X10_at l D cI cJ cZ cR q_this_standAt 6 f_this_standAt p1 _ hw) [1] rfl rfl mn_330 mw_286 mw_1 mw_287 hdX10_at ⟨Nat.le_of_ble_eq_true rfl, Nat.le_of_ble_eq_true rfl⟩ ⟨rfl, rfl⟩ hl.1 rfl (Nat.le_of_ble_eq_true rfl) dX3_mayEnter_5 ⟨Nat.zero_le _, Nat.zero_le _⟩) hP hD hS hA [1] [0] [0, 1] rfl rfl rfl rfl [ob q_this 2 [.int v_this_floors, .int v_this_riders, .int v_this_strangers, .ref q_this_wants, .ref q_this_stands, .ref q_this_wantAt, .ref q_this_standAt], aI cI q_this_standAt 6 f_this_standAt] rfl rfl (fun r_1 H locs hw hP hD hS => ?_)
  refine lv_iload_n hx hb dX3_mayEnter_8 rfl (lv_at hl 1 rfl) ?_
  refine kCi0 (kRS hx hb hml hown ht hN hK hP hD (c_X8_goneIn l D cI cJ cZ cR p0 _ hw) [] rfl rfl mw_484 mw_485 mw_12 mw_486 hdX8_goneIn ⟨Nat.le_of_ble_eq_true rfl, Nat.le_of_ble_eq_true rfl⟩ ⟨rfl, rfl⟩ hl.1 rfl (Nat.le_of_ble_eq_true rfl) dX3_mayEnter_9 ⟨Nat.zero_le _, Nat.zero_le _⟩) hP hD hS hA [] [0, 1] [0, 1] rfl rfl rfl rfl [ob q_this 2 [.int v_this_floors, .int v_this_riders, .int v_this_strangers, .ref q_this_wants, .ref q_this_stands, .ref q_this_wantAt, .ref q_this_standAt], aI cI q_this_standAt 6 f_this_standAt] rfl rfl (fun r_2 H locs hw hP hD hS => ?_)
  refine lv_iconst (v := (-1 : Int32)) hx hb dX3_mayEnter_12 (by decide) ?_
  refine lv_ixor hx hb dX3_mayEnter_13 ?_
  refine lv_iand hx hb dX3_mayEnter_14 ?_
  refine lv_iload_n hx hb dX3_mayEnter_15 rfl (lv_at hl 1 rfl) ?_
  refine lv_iload_n hx hb dX3_mayEnter_16 rfl (lv_at hl 2 rfl) ?_
  refine kCi0 (kRS hx hb hml hown ht hN hK hP hD (c_X8_strangersAt l D cI cJ cZ cR p0 p1 _ hw) [] rfl rfl mw_475 mw_392 mw_12 mw_393 hdX8_strangersAt ⟨Nat.le_of_ble_eq_true rfl, Nat.le_of_ble_eq_true rfl⟩ ⟨rfl, rfl⟩ hl.1 rfl (Nat.le_of_ble_eq_true rfl) dX3_mayEnter_17 ⟨Nat.zero_le _, Nat.zero_le _⟩) hP hD hS hA [] [0, 1] [0, 1] rfl rfl rfl rfl [ob q_this 2 [.int v_this_floors, .int v_this_riders, .int v_this_strangers, .ref q_this_wants, .ref q_this_stands, .ref q_this_wantAt, .ref q_this_standAt], aI cI q_this_standAt 6 f_this_standAt] rfl rfl (fun r_3 H locs hw hP hD hS => ?_)
  refine lv_ior hx hb dX3_mayEnter_20 ?_
  exact W.iret (v := ((r_1 &&& (r_2 ^^^ (-1 : Int32))) ||| r_3)) hx hb hr (kEi0 hw hP hD hK hS) hS.2.2 dX3_mayEnter_21
def wp_X9_byteAt (p0 : Int32) (v_this_size : Int32) (f_this_bytes : Nat → Int32) (P : Int32 → Prop) : Prop :=
  ((v_this_size ≤ p0 → P (-9 : Int32)) ∧ (¬ v_this_size ≤ p0 → (wp_X10_at p0 40 f_this_bytes (fun r_2 => P r_2))))
theorem hdX9_byteAt : yX9_byteAt.cls ≠ "java/lang/invoke/MethodHandle" ∧ yX9_byteAt.cls ≠ "java/lang/invoke/VarHandle" ∧ (parseMethodDescriptor yX9_byteAt.desc).map (fun d => d.parameters.length) = some 1 := by decide +kernel
set_option maxHeartbeats 4000000 in
set_option maxRecDepth 100000 in
theorem c_X9_byteAt (l : Launch) (D : va_G) (cI cJ cZ cR : ClassId) (q_this q_this_bytes : Nat) (v_this_size : Int32) (f_this_bytes : Nat → Int32) (p0 : Int32) (P : Int32 → Prop) (hw : wp_X9_byteAt p0 v_this_size f_this_bytes P) : kM l yX9_byteAt cX9_byteAt 2 (some .int) { frames := 1, cells := 0, slots := 0, locals := 21 } D (kTy cI cJ cZ cR) [.ref q_this, .int p0] [ob q_this 7 [.ref q_this_bytes, .int v_this_size], aI cI q_this_bytes 40 f_this_bytes] (kQi0 D (kTy cI cJ cZ cR) P [ob q_this 7 [.ref q_this_bytes, .int v_this_size], aI cI q_this_bytes 40 f_this_bytes]) 0 0 := by
  refine kM.of (by decide) (Nat.le_of_ble_eq_true rfl) ?_
  intro p e s m args below meth c A ls hx hb hr ht hown hlocks hml hN hin hA hK hP hD hS hl
  replace hl : lv_has ls 2 [(0, .ref q_this), (1, .int p0)] := hl
  obtain ⟨H, hH⟩ : ∃ H : Heap, H = s.heap := ⟨_, rfl⟩
  obtain ⟨locs, hlc⟩ : ∃ L : List Loc, L = [] := ⟨_, rfl⟩
  replace hP : va_P D kCl [ob q_this 7 [.ref q_this_bytes, .int v_this_size], aI cI q_this_bytes 40 f_this_bytes] H := by rw [hH]; exact hP
  replace hS : va_S A s.heap H locs := by rw [hH, hlc]; exact hS
  replace hD : va_D A [ob q_this 7 [.ref q_this_bytes, .int v_this_size], aI cI q_this_bytes 40 f_this_bytes] := hD
  rw [show W p l e _ s m args below meth c s.heap [] 0 0 _ _ = W p l e _ s m args below meth c H locs 0 0 _ _ from by rw [hH, hlc]]
  unfold wp_X9_byteAt at hw
  refine lv_iload_n hx hb dX9_byteAt_0 rfl (lv_at hl 1 rfl) ?_
  refine lv_aload_n hx hb dX9_byteAt_1 rfl (lv_at hl 0 rfl) ?_
  refine va_get (D := D) (ci := 7) (v := .int v_this_size) (C := RX9) (T := TX9) (N := 2) hx hb ht inX9 hown hK hP 0 rfl rfl 1 (by decide) (ht _ mw_32) (fun _ h9 => h9) rfl dX9_byteAt_2 ?_
  refine lv_icmp_ge (tgt := 19) hx hb dX9_byteAt_5 (by decide) (fun c_1 => ?_) (fun c_1 => ?_)
  · replace hw := hw.1 c_1
    refine lv_bipush (v := (-9 : Int32)) hx hb dX9_byteAt_19 (by decide) ?_
    exact W.iret (v := (-9 : Int32)) hx hb hr (kEi0 hw hP hD hK hS) hS.2.2 dX9_byteAt_21
  · replace hw := hw.2 c_1
    refine lv_aload_n hx hb dX9_byteAt_8 rfl (lv_at hl 0 rfl) ?_
    refine va_get (D := D) (ci := 7) (v := .ref q_this_bytes) (C := RX9) (T := TX9) (N := 2) hx hb ht inX9 hown hK hP 0 rfl rfl 0 (by decide) (ht _ mw_31) (fun _ h9 => h9) rfl dX9_byteAt_9 ?_
    refine lv_iload_n hx hb dX9_byteAt_12 rfl (lv_at hl 1 rfl) ?_
    refine kCi0 (kRSN hx hb hml hown ht hN hK hP hD (c_X10_at l D cI cJ cZ cR q_this_bytes 40 f_this_bytes p0 _ hw) [1] rfl rfl mn_285 mw_286 mw_1 mw_287 hdX10_at ⟨Nat.le_of_ble_eq_true rfl, Nat.le_of_ble_eq_true rfl⟩ ⟨rfl, rfl⟩ hl.1 rfl (Nat.le_of_ble_eq_true rfl) dX9_byteAt_13 ⟨Nat.zero_le _, Nat.zero_le _⟩) hP hD hS hA [1] [0] [0, 1] rfl rfl rfl rfl [ob q_this 7 [.ref q_this_bytes, .int v_this_size], aI cI q_this_bytes 40 f_this_bytes] rfl rfl (fun r_2 H locs hw hP hD hS => ?_)
    refine lv_goto (tgt := 21) hx hb dX9_byteAt_16 (by decide) ?_
    exact W.iret (v := r_2) hx hb hr (kEi0 hw hP hD hK hS) hS.2.2 dX9_byteAt_21
def wp_X5_empty (p0 : Int32) (f_this_house_wantAt : Nat → Int32) (f_this_house_standAt : Nat → Int32) (P : Int32 → Int32 → Int32 → Int32 → Int32 → (Nat → Int32) → (Nat → Int32) → Prop) : Prop :=
  (wp_X3_empty p0 f_this_house_wantAt f_this_house_standAt (fun v_1 v_2 v_3 f_4 f_5 => P (13824 : Int32) (0 : Int32) v_1 v_2 v_3 f_4 f_5))
theorem hdX5_empty : yX5_empty.cls ≠ "java/lang/invoke/MethodHandle" ∧ yX5_empty.cls ≠ "java/lang/invoke/VarHandle" ∧ (parseMethodDescriptor yX5_empty.desc).map (fun d => d.parameters.length) = some 1 := by decide +kernel
set_option maxHeartbeats 4000000 in
set_option maxRecDepth 100000 in
theorem c_X5_empty (l : Launch) (D : va_G) (cI cJ cZ cR : ClassId) (q_this q_this_house q_this_row q_this_house_wants q_this_house_stands q_this_house_wantAt q_this_house_standAt : Nat) (v_this_state : Int32) (v_this_size : Int32) (v_this_house_floors : Int32) (v_this_house_riders : Int32) (v_this_house_strangers : Int32) (f_this_house_wantAt : Nat → Int32) (f_this_house_standAt : Nat → Int32) (p0 : Int32) (P : Int32 → Int32 → Int32 → Int32 → Int32 → (Nat → Int32) → (Nat → Int32) → Prop) (hw : wp_X5_empty p0 f_this_house_wantAt f_this_house_standAt P) : kM l yX5_empty cX5_empty 2 none { frames := 2, cells := 0, slots := 0, locals := 44 } D (kTy cI cJ cZ cR) [.ref q_this, .int p0] [ob q_this 4 [.ref q_this_house, .int v_this_state, .ref q_this_row, .int v_this_size], ob q_this_house 2 [.int v_this_house_floors, .int v_this_house_riders, .int v_this_house_strangers, .ref q_this_house_wants, .ref q_this_house_stands, .ref q_this_house_wantAt, .ref q_this_house_standAt], aI cI q_this_house_wantAt 6 f_this_house_wantAt, aI cI q_this_house_standAt 6 f_this_house_standAt] (kQv7 D (kTy cI cJ cZ cR) P (fun y0 y1 y2 y3 y4 y5 y6 => [ob q_this 4 [.ref q_this_house, .int y0, .ref q_this_row, .int y1], ob q_this_house 2 [.int y2, .int y3, .int y4, .ref q_this_house_wants, .ref q_this_house_stands, .ref q_this_house_wantAt, .ref q_this_house_standAt], aI cI q_this_house_wantAt 6 y5, aI cI q_this_house_standAt 6 y6])) 0 0 := by
  refine kM.of (by decide) (Nat.le_of_ble_eq_true rfl) ?_
  intro p e s m args below meth c A ls hx hb hr ht hown hlocks hml hN hin hA hK hP hD hS hl
  replace hl : lv_has ls 2 [(0, .ref q_this), (1, .int p0)] := hl
  obtain ⟨H, hH⟩ : ∃ H : Heap, H = s.heap := ⟨_, rfl⟩
  obtain ⟨locs, hlc⟩ : ∃ L : List Loc, L = [] := ⟨_, rfl⟩
  replace hP : va_P D kCl [ob q_this 4 [.ref q_this_house, .int v_this_state, .ref q_this_row, .int v_this_size], ob q_this_house 2 [.int v_this_house_floors, .int v_this_house_riders, .int v_this_house_strangers, .ref q_this_house_wants, .ref q_this_house_stands, .ref q_this_house_wantAt, .ref q_this_house_standAt], aI cI q_this_house_wantAt 6 f_this_house_wantAt, aI cI q_this_house_standAt 6 f_this_house_standAt] H := by rw [hH]; exact hP
  replace hS : va_S A s.heap H locs := by rw [hH, hlc]; exact hS
  replace hD : va_D A [ob q_this 4 [.ref q_this_house, .int v_this_state, .ref q_this_row, .int v_this_size], ob q_this_house 2 [.int v_this_house_floors, .int v_this_house_riders, .int v_this_house_strangers, .ref q_this_house_wants, .ref q_this_house_stands, .ref q_this_house_wantAt, .ref q_this_house_standAt], aI cI q_this_house_wantAt 6 f_this_house_wantAt, aI cI q_this_house_standAt 6 f_this_house_standAt] := hD
  rw [show W p l e _ s m args below meth c s.heap [] 0 0 _ _ = W p l e _ s m args below meth c H locs 0 0 _ _ from by rw [hH, hlc]]
  unfold wp_X5_empty at hw
  refine lv_aload_n hx hb dX5_empty_0 rfl (lv_at hl 0 rfl) ?_
  refine va_get (D := D) (ci := 4) (v := .ref q_this_house) (C := RX5) (T := TX5) (N := 4) hx hb ht inX5 hown hK hP 0 rfl rfl 0 (by decide) (ht _ mw_89) (fun _ h9 => h9) rfl dX5_empty_1 ?_
  refine lv_iload_n hx hb dX5_empty_4 rfl (lv_at hl 1 rfl) ?_
  refine kCv5 (kRV hx hb hml hown ht hN hK hP hD (c_X3_empty l D cI cJ cZ cR q_this_house q_this_house_wants q_this_house_stands q_this_house_wantAt q_this_house_standAt v_this_house_floors v_this_house_riders v_this_house_strangers f_this_house_wantAt f_this_house_standAt p0 _ hw) [1, 2, 3] rfl rfl (T := TX3) (N := 7) rfl rfl mw_292 mw_293 mw_294 mw_5 mw_295 hdX3_empty ⟨Nat.le_of_ble_eq_true rfl, Nat.le_of_ble_eq_true rfl⟩ ⟨rfl, rfl⟩ hl.1 rfl (Nat.le_of_ble_eq_true rfl) dX5_empty_5 ⟨Nat.zero_le _, Nat.zero_le _⟩) hP hD hS hA [1, 2, 3] [0] [0, 1, 2, 3] rfl rfl rfl rfl (fun v_1 v_2 v_3 f_4 f_5 => [ob q_this 4 [.ref q_this_house, .int v_this_state, .ref q_this_row, .int v_this_size], ob q_this_house 2 [.int v_1, .int v_2, .int v_3, .ref q_this_house_wants, .ref q_this_house_stands, .ref q_this_house_wantAt, .ref q_this_house_standAt], aI cI q_this_house_wantAt 6 f_4, aI cI q_this_house_standAt 6 f_5]) (fun _ _ _ _ _ => rfl) rfl (fun v_1 v_2 v_3 f_4 f_5 H locs hw hP hD hS => ?_)
  refine lv_aload_n hx hb dX5_empty_8 rfl (lv_at hl 0 rfl) ?_
  refine lv_sipush (v := (13824 : Int32)) hx hb dX5_empty_9 (by decide) ?_
  refine va_put (D := D) (ci := 4) (v := .int (13824 : Int32)) (ty := .int) (C := RX5) (T := TX5) (N := 4) hx hb ht inX5 tyX5 tyX5_ok nmX5 hown hK hP hD hS 0 rfl rfl 1 (by decide) (ht _ mw_92) (fun _ h9 => h9) rfl (by decide +kernel) rfl rfl (Nat.le_of_ble_eq_true rfl) dX5_empty_12 (fun H locs hP hD hS => ?_)
  replace hP : va_P D kCl [ob q_this 4 [.ref q_this_house, .int (13824 : Int32), .ref q_this_row, .int v_this_size], ob q_this_house 2 [.int v_1, .int v_2, .int v_3, .ref q_this_house_wants, .ref q_this_house_stands, .ref q_this_house_wantAt, .ref q_this_house_standAt], aI cI q_this_house_wantAt 6 f_4, aI cI q_this_house_standAt 6 f_5] H := hP
  replace hD : va_D A [ob q_this 4 [.ref q_this_house, .int (13824 : Int32), .ref q_this_row, .int v_this_size], ob q_this_house 2 [.int v_1, .int v_2, .int v_3, .ref q_this_house_wants, .ref q_this_house_stands, .ref q_this_house_wantAt, .ref q_this_house_standAt], aI cI q_this_house_wantAt 6 f_4, aI cI q_this_house_standAt 6 f_5] := hD
  refine lv_aload_n hx hb dX5_empty_15 rfl (lv_at hl 0 rfl) ?_
  refine lv_iconst (v := (0 : Int32)) hx hb dX5_empty_16 (by decide) ?_
  refine va_put (D := D) (ci := 4) (v := .int (0 : Int32)) (ty := .int) (C := RX5) (T := TX5) (N := 4) hx hb ht inX5 tyX5 tyX5_ok nmX5 hown hK hP hD hS 0 rfl rfl 3 (by decide) (ht _ mw_95) (fun _ h9 => h9) rfl (by decide +kernel) rfl rfl (Nat.le_of_ble_eq_true rfl) dX5_empty_17 (fun H locs hP hD hS => ?_)
  replace hP : va_P D kCl [ob q_this 4 [.ref q_this_house, .int (13824 : Int32), .ref q_this_row, .int (0 : Int32)], ob q_this_house 2 [.int v_1, .int v_2, .int v_3, .ref q_this_house_wants, .ref q_this_house_stands, .ref q_this_house_wantAt, .ref q_this_house_standAt], aI cI q_this_house_wantAt 6 f_4, aI cI q_this_house_standAt 6 f_5] H := hP
  replace hD : va_D A [ob q_this 4 [.ref q_this_house, .int (13824 : Int32), .ref q_this_row, .int (0 : Int32)], ob q_this_house 2 [.int v_1, .int v_2, .int v_3, .ref q_this_house_wants, .ref q_this_house_stands, .ref q_this_house_wantAt, .ref q_this_house_standAt], aI cI q_this_house_wantAt 6 f_4, aI cI q_this_house_standAt 6 f_5] := hD
  exact W.vret hx hb hr (kEv7 hw hP hD hK hS) hS.2.2 dX5_empty_20
def wp_X9_size (v_this_size : Int32) (P : Int32 → Prop) : Prop :=
  P v_this_size
theorem hdX9_size : yX9_size.cls ≠ "java/lang/invoke/MethodHandle" ∧ yX9_size.cls ≠ "java/lang/invoke/VarHandle" ∧ (parseMethodDescriptor yX9_size.desc).map (fun d => d.parameters.length) = some 0 := by decide +kernel
set_option maxHeartbeats 4000000 in
set_option maxRecDepth 100000 in
theorem c_X9_size (l : Launch) (D : va_G) (cI cJ cZ cR : ClassId) (q_this q_this_bytes : Nat) (v_this_size : Int32) (P : Int32 → Prop) (hw : wp_X9_size v_this_size P) : kM l yX9_size cX9_size 1 (some .int) { frames := 0, cells := 0, slots := 0, locals := 0 } D (kTy cI cJ cZ cR) [.ref q_this] [ob q_this 7 [.ref q_this_bytes, .int v_this_size]] (kQi0 D (kTy cI cJ cZ cR) P [ob q_this 7 [.ref q_this_bytes, .int v_this_size]]) 0 0 := by
  refine kM.of (by decide) (Nat.le_of_ble_eq_true rfl) ?_
  intro p e s m args below meth c A ls hx hb hr ht hown hlocks hml hN hin hA hK hP hD hS hl
  replace hl : lv_has ls 1 [(0, .ref q_this)] := hl
  obtain ⟨H, hH⟩ : ∃ H : Heap, H = s.heap := ⟨_, rfl⟩
  obtain ⟨locs, hlc⟩ : ∃ L : List Loc, L = [] := ⟨_, rfl⟩
  replace hP : va_P D kCl [ob q_this 7 [.ref q_this_bytes, .int v_this_size]] H := by rw [hH]; exact hP
  replace hS : va_S A s.heap H locs := by rw [hH, hlc]; exact hS
  replace hD : va_D A [ob q_this 7 [.ref q_this_bytes, .int v_this_size]] := hD
  rw [show W p l e _ s m args below meth c s.heap [] 0 0 _ _ = W p l e _ s m args below meth c H locs 0 0 _ _ from by rw [hH, hlc]]
  unfold wp_X9_size at hw
  refine lv_aload_n hx hb dX9_size_0 rfl (lv_at hl 0 rfl) ?_
  refine va_get (D := D) (ci := 7) (v := .int v_this_size) (C := RX9) (T := TX9) (N := 2) hx hb ht inX9 hown hK hP 0 rfl rfl 1 (by decide) (ht _ mw_32) (fun _ h9 => h9) rfl dX9_size_1 ?_
  exact W.iret (v := v_this_size) hx hb hr (kEi0 hw hP hD hK hS) hS.2.2 dX9_size_4
def wp_X4_readFloor (p2 : Int32) (v_this_place : Int32) (v_p0_size : Int32) (f_p0_bytes : Nat → Int32) (v_p1_floors : Int32) (P : Int32 → Int32 → Prop) : Prop :=
  (wp_X9_byteAt v_this_place v_p0_size f_p0_bytes (fun r_1 => (∀ x_2 : Int32, x_2 = (r_1 - (48 : Int32)) → (wp_X3_hasFloor x_2 v_p1_floors (fun r_3 => ((r_3 = 0 → P (-9 : Int32) v_this_place) ∧ (¬ r_3 = 0 → ((¬ x_2 = p2 → (∀ x_6 : Int32, x_6 = (v_this_place + (1 : Int32)) → P x_2 x_6)) ∧ (x_2 = p2 → P (-9 : Int32) v_this_place)))))))))
theorem hdX4_readFloor : yX4_readFloor.cls ≠ "java/lang/invoke/MethodHandle" ∧ yX4_readFloor.cls ≠ "java/lang/invoke/VarHandle" ∧ (parseMethodDescriptor yX4_readFloor.desc).map (fun d => d.parameters.length) = some 3 := by decide +kernel
set_option maxHeartbeats 4000000 in
set_option maxRecDepth 100000 in
theorem c_X4_readFloor (l : Launch) (D : va_G) (cI cJ cZ cR : ClassId) (q_this q_p0 q_p0_bytes q_p1 q_p1_wants q_p1_stands q_p1_wantAt q_p1_standAt : Nat) (v_this_place : Int32) (v_p0_size : Int32) (f_p0_bytes : Nat → Int32) (v_p1_floors : Int32) (v_p1_riders : Int32) (v_p1_strangers : Int32) (p2 : Int32) (P : Int32 → Int32 → Prop) (hw : wp_X4_readFloor p2 v_this_place v_p0_size f_p0_bytes v_p1_floors P) : kM l yX4_readFloor cX4_readFloor 5 (some .int) { frames := 2, cells := 0, slots := 0, locals := 42 } D (kTy cI cJ cZ cR) [.ref q_this, .ref q_p0, .ref q_p1, .int p2] [ob q_this 3 [.int v_this_place], ob q_p0 7 [.ref q_p0_bytes, .int v_p0_size], aI cI q_p0_bytes 40 f_p0_bytes, ob q_p1 2 [.int v_p1_floors, .int v_p1_riders, .int v_p1_strangers, .ref q_p1_wants, .ref q_p1_stands, .ref q_p1_wantAt, .ref q_p1_standAt]] (kQi1 D (kTy cI cJ cZ cR) P (fun y0 => [ob q_this 3 [.int y0], ob q_p0 7 [.ref q_p0_bytes, .int v_p0_size], aI cI q_p0_bytes 40 f_p0_bytes, ob q_p1 2 [.int v_p1_floors, .int v_p1_riders, .int v_p1_strangers, .ref q_p1_wants, .ref q_p1_stands, .ref q_p1_wantAt, .ref q_p1_standAt]])) 0 0 := by
  refine kM.of (by decide) (Nat.le_of_ble_eq_true rfl) ?_
  intro p e s m args below meth c A ls hx hb hr ht hown hlocks hml hN hin hA hK hP hD hS hl
  replace hl : lv_has ls 5 [(0, .ref q_this), (1, .ref q_p0), (2, .ref q_p1), (3, .int p2)] := hl
  obtain ⟨H, hH⟩ : ∃ H : Heap, H = s.heap := ⟨_, rfl⟩
  obtain ⟨locs, hlc⟩ : ∃ L : List Loc, L = [] := ⟨_, rfl⟩
  replace hP : va_P D kCl [ob q_this 3 [.int v_this_place], ob q_p0 7 [.ref q_p0_bytes, .int v_p0_size], aI cI q_p0_bytes 40 f_p0_bytes, ob q_p1 2 [.int v_p1_floors, .int v_p1_riders, .int v_p1_strangers, .ref q_p1_wants, .ref q_p1_stands, .ref q_p1_wantAt, .ref q_p1_standAt]] H := by rw [hH]; exact hP
  replace hS : va_S A s.heap H locs := by rw [hH, hlc]; exact hS
  replace hD : va_D A [ob q_this 3 [.int v_this_place], ob q_p0 7 [.ref q_p0_bytes, .int v_p0_size], aI cI q_p0_bytes 40 f_p0_bytes, ob q_p1 2 [.int v_p1_floors, .int v_p1_riders, .int v_p1_strangers, .ref q_p1_wants, .ref q_p1_stands, .ref q_p1_wantAt, .ref q_p1_standAt]] := hD
  rw [show W p l e _ s m args below meth c s.heap [] 0 0 _ _ = W p l e _ s m args below meth c H locs 0 0 _ _ from by rw [hH, hlc]]
  unfold wp_X4_readFloor at hw
  refine lv_aload_n hx hb dX4_readFloor_0 rfl (lv_at hl 1 rfl) ?_
  refine lv_aload_n hx hb dX4_readFloor_1 rfl (lv_at hl 0 rfl) ?_
  refine va_get (D := D) (ci := 3) (v := .int v_this_place) (C := RX4) (T := TX4) (N := 1) hx hb ht inX4 hown hK hP 0 rfl rfl 0 (by decide) (ht _ mw_45) (fun _ h9 => h9) rfl dX4_readFloor_2 ?_
  refine kCi0 (kRV hx hb hml hown ht hN hK hP hD (c_X9_byteAt l D cI cJ cZ cR q_p0 q_p0_bytes v_p0_size f_p0_bytes v_this_place _ hw) [1, 2] rfl rfl (T := TX9) (N := 2) rfl rfl mw_281 mw_282 mw_283 mw_2 mw_284 hdX9_byteAt ⟨Nat.le_of_ble_eq_true rfl, Nat.le_of_ble_eq_true rfl⟩ ⟨rfl, rfl⟩ hl.1 rfl (Nat.le_of_ble_eq_true rfl) dX4_readFloor_5 ⟨Nat.zero_le _, Nat.zero_le _⟩) hP hD hS hA [1, 2] [0, 3] [0, 2, 3, 1] rfl rfl rfl rfl [ob q_this 3 [.int v_this_place], ob q_p0 7 [.ref q_p0_bytes, .int v_p0_size], aI cI q_p0_bytes 40 f_p0_bytes, ob q_p1 2 [.int v_p1_floors, .int v_p1_riders, .int v_p1_strangers, .ref q_p1_wants, .ref q_p1_stands, .ref q_p1_wantAt, .ref q_p1_standAt]] rfl rfl (fun r_1 H locs hw hP hD hS => ?_)
  refine lv_bipush (v := (48 : Int32)) hx hb dX4_readFloor_8 (by decide) ?_
  refine lv_isub hx hb dX4_readFloor_10 ?_
  refine lv_topi (fun x_2 ex_2 => ?_)
  replace hw := hw x_2 ex_2
  refine lv_istore (lv' := [(4, .int x_2), (0, .ref q_this), (1, .ref q_p0), (2, .ref q_p1), (3, .int p2)]) hx hb dX4_readFloor_11 hl (by decide) rfl (fun ls hl => ?_)
  refine lv_aload_n hx hb dX4_readFloor_13 rfl (lv_at hl 3 rfl) ?_
  refine lv_iload hx hb dX4_readFloor_14 (lv_at hl 0 rfl) ?_
  refine kCi0 (kRV hx hb hml hown ht hN hK hP hD (c_X3_hasFloor l D cI cJ cZ cR q_p1 q_p1_wants q_p1_stands q_p1_wantAt q_p1_standAt v_p1_floors v_p1_riders v_p1_strangers x_2 _ hw) [3] rfl rfl (T := TX3) (N := 7) rfl rfl mw_314 mw_315 mw_316 mw_5 mw_317 hdX3_hasFloor ⟨Nat.le_of_ble_eq_true rfl, Nat.le_of_ble_eq_true rfl⟩ ⟨rfl, rfl⟩ hl.1 rfl (Nat.le_of_ble_eq_true rfl) dX4_readFloor_16 ⟨Nat.zero_le _, Nat.zero_le _⟩) hP hD hS hA [3] [0, 1, 2] [0, 1, 2, 3] rfl rfl rfl rfl [ob q_this 3 [.int v_this_place], ob q_p0 7 [.ref q_p0_bytes, .int v_p0_size], aI cI q_p0_bytes 40 f_p0_bytes, ob q_p1 2 [.int v_p1_floors, .int v_p1_riders, .int v_p1_strangers, .ref q_p1_wants, .ref q_p1_stands, .ref q_p1_wantAt, .ref q_p1_standAt]] rfl rfl (fun r_3 H locs hw hP hD hS => ?_)
  refine lv_if_eq (tgt := 28) hx hb dX4_readFloor_19 (by decide) (fun c_4 => ?_) (fun c_4 => ?_)
  · replace hw := hw.1 c_4
    refine lv_bipush (v := (-9 : Int32)) hx hb dX4_readFloor_28 (by decide) ?_
    exact W.iret (v := (-9 : Int32)) hx hb hr (kEi1 hw hP hD hK hS) hS.2.2 dX4_readFloor_30
  · replace hw := hw.2 c_4
    refine lv_iload hx hb dX4_readFloor_22 (lv_at hl 0 rfl) ?_
    refine lv_iload_n hx hb dX4_readFloor_24 rfl (lv_at hl 4 rfl) ?_
    refine lv_icmp_ne (tgt := 31) hx hb dX4_readFloor_25 (by decide) (fun c_5 => ?_) (fun c_5 => ?_)
    · replace hw := hw.1 c_5
      refine lv_aload_n hx hb dX4_readFloor_31 rfl (lv_at hl 1 rfl) ?_
      refine lv_dup hx hb dX4_readFloor_32 rfl ?_
      refine va_get (D := D) (ci := 3) (v := .int v_this_place) (C := RX4) (T := TX4) (N := 1) hx hb ht inX4 hown hK hP 0 rfl rfl 0 (by decide) (ht _ mw_45) (fun _ h9 => h9) rfl dX4_readFloor_33 ?_
      refine lv_iconst (v := (1 : Int32)) hx hb dX4_readFloor_36 (by decide) ?_
      refine lv_iadd hx hb dX4_readFloor_37 ?_
      refine lv_topi (fun x_6 ex_6 => ?_)
      replace hw := hw x_6 ex_6
      refine va_put (D := D) (ci := 3) (v := .int x_6) (ty := .int) (C := RX4) (T := TX4) (N := 1) hx hb ht inX4 tyX4 tyX4_ok nmX4 hown hK hP hD hS 0 rfl rfl 0 (by decide) (ht _ mw_45) (fun _ h9 => h9) rfl (by decide +kernel) rfl rfl (Nat.le_of_ble_eq_true rfl) dX4_readFloor_38 (fun H locs hP hD hS => ?_)
      replace hP : va_P D kCl [ob q_this 3 [.int x_6], ob q_p0 7 [.ref q_p0_bytes, .int v_p0_size], aI cI q_p0_bytes 40 f_p0_bytes, ob q_p1 2 [.int v_p1_floors, .int v_p1_riders, .int v_p1_strangers, .ref q_p1_wants, .ref q_p1_stands, .ref q_p1_wantAt, .ref q_p1_standAt]] H := hP
      replace hD : va_D A [ob q_this 3 [.int x_6], ob q_p0 7 [.ref q_p0_bytes, .int v_p0_size], aI cI q_p0_bytes 40 f_p0_bytes, ob q_p1 2 [.int v_p1_floors, .int v_p1_riders, .int v_p1_strangers, .ref q_p1_wants, .ref q_p1_stands, .ref q_p1_wantAt, .ref q_p1_standAt]] := hD
      refine lv_iload hx hb dX4_readFloor_41 (lv_at hl 0 rfl) ?_
      exact W.iret (v := x_2) hx hb hr (kEi1 hw hP hD hK hS) hS.2.2 dX4_readFloor_43
    · replace hw := hw.2 c_5
      refine lv_bipush (v := (-9 : Int32)) hx hb dX4_readFloor_28 (by decide) ?_
      exact W.iret (v := (-9 : Int32)) hx hb hr (kEi1 hw hP hD hK hS) hS.2.2 dX4_readFloor_30
def wp_X8_withInside (p0 : Int32) (p1 : Int32) (P : Int32 → Prop) : Prop :=
  P (p0 ||| ((1 : Int32) <<< (p1 &&& 31)))
theorem hdX8_withInside : yX8_withInside.cls ≠ "java/lang/invoke/MethodHandle" ∧ yX8_withInside.cls ≠ "java/lang/invoke/VarHandle" ∧ (parseMethodDescriptor yX8_withInside.desc).map (fun d => d.parameters.length) = some 2 := by decide +kernel
set_option maxHeartbeats 4000000 in
set_option maxRecDepth 100000 in
theorem c_X8_withInside (l : Launch) (D : va_G) (cI cJ cZ cR : ClassId) (p0 : Int32) (p1 : Int32) (P : Int32 → Prop) (hw : wp_X8_withInside p0 p1 P) : kM l yX8_withInside cX8_withInside 2 (some .int) { frames := 0, cells := 0, slots := 0, locals := 0 } D (kTy cI cJ cZ cR) [.int p0, .int p1] [] (kQi0 D (kTy cI cJ cZ cR) P []) 0 0 := by
  refine kM.of (by decide) (Nat.le_of_ble_eq_true rfl) ?_
  intro p e s m args below meth c A ls hx hb hr ht hown hlocks hml hN hin hA hK hP hD hS hl
  replace hl : lv_has ls 2 [(0, .int p0), (1, .int p1)] := hl
  obtain ⟨H, hH⟩ : ∃ H : Heap, H = s.heap := ⟨_, rfl⟩
  obtain ⟨locs, hlc⟩ : ∃ L : List Loc, L = [] := ⟨_, rfl⟩
  replace hP : va_P D kCl [] H := by rw [hH]; exact hP
  replace hS : va_S A s.heap H locs := by rw [hH, hlc]; exact hS
  replace hD : va_D A [] := hD
  rw [show W p l e _ s m args below meth c s.heap [] 0 0 _ _ = W p l e _ s m args below meth c H locs 0 0 _ _ from by rw [hH, hlc]]
  unfold wp_X8_withInside at hw
  refine lv_iload_n hx hb dX8_withInside_0 rfl (lv_at hl 0 rfl) ?_
  refine lv_iconst (v := (1 : Int32)) hx hb dX8_withInside_1 (by decide) ?_
  refine lv_iload_n hx hb dX8_withInside_2 rfl (lv_at hl 1 rfl) ?_
  refine lv_ishl hx hb dX8_withInside_3 ?_
  refine lv_ior hx hb dX8_withInside_4 ?_
  exact W.iret (v := (p0 ||| ((1 : Int32) <<< (p1 &&& 31)))) hx hb hr (kEi0 hw hP hD hK hS) hS.2.2 dX8_withInside_5
def wp_X5_addRider (p0 : Int32) (p1 : Int32) (v_this_state : Int32) (v_this_house_riders : Int32) (f_this_house_wants : Nat → Int32) (f_this_house_wantAt : Nat → Int32) (f_this_house_stands : Nat → Int32) (f_this_house_standAt : Nat → Int32) (P : Int32 → Int32 → (Nat → Int32) → (Nat → Int32) → (Nat → Int32) → (Nat → Int32) → Prop) : Prop :=
  ((¬ p0 = (-9 : Int32) → (wp_X3_addRider p0 p1 v_this_house_riders f_this_house_wants f_this_house_wantAt f_this_house_stands f_this_house_standAt (fun v_2 f_3 f_4 f_5 f_6 => P v_this_state v_2 f_3 f_4 f_5 f_6))) ∧ (p0 = (-9 : Int32) → (wp_X8_withInside v_this_state v_this_house_riders (fun r_7 => (wp_X3_addRider p0 p1 v_this_house_riders f_this_house_wants f_this_house_wantAt f_this_house_stands f_this_house_standAt (fun v_8 f_9 f_10 f_11 f_12 => P r_7 v_8 f_9 f_10 f_11 f_12))))))
theorem hdX5_addRider : yX5_addRider.cls ≠ "java/lang/invoke/MethodHandle" ∧ yX5_addRider.cls ≠ "java/lang/invoke/VarHandle" ∧ (parseMethodDescriptor yX5_addRider.desc).map (fun d => d.parameters.length) = some 2 := by decide +kernel
set_option maxHeartbeats 4000000 in
set_option maxRecDepth 100000 in
theorem c_X5_addRider (l : Launch) (D : va_G) (cI cJ cZ cR : ClassId) (q_this q_this_house q_this_row q_this_house_wants q_this_house_stands q_this_house_wantAt q_this_house_standAt : Nat) (v_this_state : Int32) (v_this_size : Int32) (v_this_house_floors : Int32) (v_this_house_riders : Int32) (v_this_house_strangers : Int32) (f_this_house_wants : Nat → Int32) (f_this_house_wantAt : Nat → Int32) (f_this_house_stands : Nat → Int32) (f_this_house_standAt : Nat → Int32) (p0 : Int32) (p1 : Int32) (P : Int32 → Int32 → (Nat → Int32) → (Nat → Int32) → (Nat → Int32) → (Nat → Int32) → Prop) (hw : wp_X5_addRider p0 p1 v_this_state v_this_house_riders f_this_house_wants f_this_house_wantAt f_this_house_stands f_this_house_standAt P) : kM l yX5_addRider cX5_addRider 3 none { frames := 2, cells := 0, slots := 0, locals := 44 } D (kTy cI cJ cZ cR) [.ref q_this, .int p0, .int p1] [ob q_this 4 [.ref q_this_house, .int v_this_state, .ref q_this_row, .int v_this_size], ob q_this_house 2 [.int v_this_house_floors, .int v_this_house_riders, .int v_this_house_strangers, .ref q_this_house_wants, .ref q_this_house_stands, .ref q_this_house_wantAt, .ref q_this_house_standAt], aI cI q_this_house_wants 4 f_this_house_wants, aI cI q_this_house_wantAt 6 f_this_house_wantAt, aI cI q_this_house_stands 4 f_this_house_stands, aI cI q_this_house_standAt 6 f_this_house_standAt] (kQv6 D (kTy cI cJ cZ cR) P (fun y0 y1 y2 y3 y4 y5 => [ob q_this 4 [.ref q_this_house, .int y0, .ref q_this_row, .int v_this_size], ob q_this_house 2 [.int v_this_house_floors, .int y1, .int v_this_house_strangers, .ref q_this_house_wants, .ref q_this_house_stands, .ref q_this_house_wantAt, .ref q_this_house_standAt], aI cI q_this_house_wants 4 y2, aI cI q_this_house_wantAt 6 y3, aI cI q_this_house_stands 4 y4, aI cI q_this_house_standAt 6 y5])) 0 0 := by
  refine kM.of (by decide) (Nat.le_of_ble_eq_true rfl) ?_
  intro p e s m args below meth c A ls hx hb hr ht hown hlocks hml hN hin hA hK hP hD hS hl
  replace hl : lv_has ls 3 [(0, .ref q_this), (1, .int p0), (2, .int p1)] := hl
  obtain ⟨H, hH⟩ : ∃ H : Heap, H = s.heap := ⟨_, rfl⟩
  obtain ⟨locs, hlc⟩ : ∃ L : List Loc, L = [] := ⟨_, rfl⟩
  replace hP : va_P D kCl [ob q_this 4 [.ref q_this_house, .int v_this_state, .ref q_this_row, .int v_this_size], ob q_this_house 2 [.int v_this_house_floors, .int v_this_house_riders, .int v_this_house_strangers, .ref q_this_house_wants, .ref q_this_house_stands, .ref q_this_house_wantAt, .ref q_this_house_standAt], aI cI q_this_house_wants 4 f_this_house_wants, aI cI q_this_house_wantAt 6 f_this_house_wantAt, aI cI q_this_house_stands 4 f_this_house_stands, aI cI q_this_house_standAt 6 f_this_house_standAt] H := by rw [hH]; exact hP
  replace hS : va_S A s.heap H locs := by rw [hH, hlc]; exact hS
  replace hD : va_D A [ob q_this 4 [.ref q_this_house, .int v_this_state, .ref q_this_row, .int v_this_size], ob q_this_house 2 [.int v_this_house_floors, .int v_this_house_riders, .int v_this_house_strangers, .ref q_this_house_wants, .ref q_this_house_stands, .ref q_this_house_wantAt, .ref q_this_house_standAt], aI cI q_this_house_wants 4 f_this_house_wants, aI cI q_this_house_wantAt 6 f_this_house_wantAt, aI cI q_this_house_stands 4 f_this_house_stands, aI cI q_this_house_standAt 6 f_this_house_standAt] := hD
  rw [show W p l e _ s m args below meth c s.heap [] 0 0 _ _ = W p l e _ s m args below meth c H locs 0 0 _ _ from by rw [hH, hlc]]
  unfold wp_X5_addRider at hw
  refine lv_iload_n hx hb dX5_addRider_0 rfl (lv_at hl 1 rfl) ?_
  refine lv_bipush (v := (-9 : Int32)) hx hb dX5_addRider_1 (by decide) ?_
  refine lv_icmp_ne (tgt := 24) hx hb dX5_addRider_3 (by decide) (fun c_1 => ?_) (fun c_1 => ?_)
  · replace hw := hw.1 c_1
    refine lv_aload_n hx hb dX5_addRider_24 rfl (lv_at hl 0 rfl) ?_
    refine va_get (D := D) (ci := 4) (v := .ref q_this_house) (C := RX5) (T := TX5) (N := 4) hx hb ht inX5 hown hK hP 0 rfl rfl 0 (by decide) (ht _ mw_89) (fun _ h9 => h9) rfl dX5_addRider_25 ?_
    refine lv_iload_n hx hb dX5_addRider_28 rfl (lv_at hl 1 rfl) ?_
    refine lv_iload_n hx hb dX5_addRider_29 rfl (lv_at hl 2 rfl) ?_
    refine kCv5 (kRV hx hb hml hown ht hN hK hP hD (c_X3_addRider l D cI cJ cZ cR q_this_house q_this_house_wants q_this_house_stands q_this_house_wantAt q_this_house_standAt v_this_house_floors v_this_house_riders v_this_house_strangers f_this_house_wants f_this_house_wantAt f_this_house_stands f_this_house_standAt p0 p1 _ hw) [1, 2, 3, 4, 5] rfl rfl (T := TX3) (N := 7) rfl rfl mw_325 mw_326 mw_327 mw_5 mw_328 hdX3_addRider ⟨Nat.le_of_ble_eq_true rfl, Nat.le_of_ble_eq_true rfl⟩ ⟨rfl, rfl⟩ hl.1 rfl (Nat.le_of_ble_eq_true rfl) dX5_addRider_30 ⟨Nat.zero_le _, Nat.zero_le _⟩) hP hD hS hA [1, 2, 3, 4, 5] [0] [0, 1, 2, 3, 4, 5] rfl rfl rfl rfl (fun v_2 f_3 f_4 f_5 f_6 => [ob q_this 4 [.ref q_this_house, .int v_this_state, .ref q_this_row, .int v_this_size], ob q_this_house 2 [.int v_this_house_floors, .int v_2, .int v_this_house_strangers, .ref q_this_house_wants, .ref q_this_house_stands, .ref q_this_house_wantAt, .ref q_this_house_standAt], aI cI q_this_house_wants 4 f_3, aI cI q_this_house_wantAt 6 f_4, aI cI q_this_house_stands 4 f_5, aI cI q_this_house_standAt 6 f_6]) (fun _ _ _ _ _ => rfl) rfl (fun v_2 f_3 f_4 f_5 f_6 H locs hw hP hD hS => ?_)
    exact W.vret hx hb hr (kEv6 hw hP hD hK hS) hS.2.2 dX5_addRider_33
  · replace hw := hw.2 c_1
    refine lv_aload_n hx hb dX5_addRider_6 rfl (lv_at hl 0 rfl) ?_
    refine lv_aload_n hx hb dX5_addRider_7 rfl (lv_at hl 0 rfl) ?_
    refine va_get (D := D) (ci := 4) (v := .int v_this_state) (C := RX5) (T := TX5) (N := 4) hx hb ht inX5 hown hK hP 0 rfl rfl 1 (by decide) (ht _ mw_92) (fun _ h9 => h9) rfl dX5_addRider_8 ?_
    refine lv_aload_n hx hb dX5_addRider_11 rfl (lv_at hl 0 rfl) ?_
    refine va_get (D := D) (ci := 4) (v := .ref q_this_house) (C := RX5) (T := TX5) (N := 4) hx hb ht inX5 hown hK hP 0 rfl rfl 0 (by decide) (ht _ mw_89) (fun _ h9 => h9) rfl dX5_addRider_12 ?_
    refine va_getN (D := D) (ci := 2) (v := .int v_this_house_riders) (C := RX3) (T := TX3) (N := 7) hx hb ht inX3 hown hK hP 1 rfl rfl 1 (by decide) (va_Nw.use rfl (hN.1 _ mn_65)) (fun _ h9 => h9) rfl dX5_addRider_15 ?_
    refine kCi0 (kRS hx hb hml hown ht hN hK hP hD (c_X8_withInside l D cI cJ cZ cR v_this_state v_this_house_riders _ hw) [] rfl rfl mw_322 mw_323 mw_12 mw_324 hdX8_withInside ⟨Nat.le_of_ble_eq_true rfl, Nat.le_of_ble_eq_true rfl⟩ ⟨rfl, rfl⟩ hl.1 rfl (Nat.le_of_ble_eq_true rfl) dX5_addRider_18 ⟨Nat.zero_le _, Nat.zero_le _⟩) hP hD hS hA [] [0, 1, 2, 3, 4, 5] [0, 1, 2, 3, 4, 5] rfl rfl rfl rfl [ob q_this 4 [.ref q_this_house, .int v_this_state, .ref q_this_row, .int v_this_size], ob q_this_house 2 [.int v_this_house_floors, .int v_this_house_riders, .int v_this_house_strangers, .ref q_this_house_wants, .ref q_this_house_stands, .ref q_this_house_wantAt, .ref q_this_house_standAt], aI cI q_this_house_wants 4 f_this_house_wants, aI cI q_this_house_wantAt 6 f_this_house_wantAt, aI cI q_this_house_stands 4 f_this_house_stands, aI cI q_this_house_standAt 6 f_this_house_standAt] rfl rfl (fun r_7 H locs hw hP hD hS => ?_)
    refine va_put (D := D) (ci := 4) (v := .int r_7) (ty := .int) (C := RX5) (T := TX5) (N := 4) hx hb ht inX5 tyX5 tyX5_ok nmX5 hown hK hP hD hS 0 rfl rfl 1 (by decide) (ht _ mw_92) (fun _ h9 => h9) rfl (by decide +kernel) rfl rfl (Nat.le_of_ble_eq_true rfl) dX5_addRider_21 (fun H locs hP hD hS => ?_)
    replace hP : va_P D kCl [ob q_this 4 [.ref q_this_house, .int r_7, .ref q_this_row, .int v_this_size], ob q_this_house 2 [.int v_this_house_floors, .int v_this_house_riders, .int v_this_house_strangers, .ref q_this_house_wants, .ref q_this_house_stands, .ref q_this_house_wantAt, .ref q_this_house_standAt], aI cI q_this_house_wants 4 f_this_house_wants, aI cI q_this_house_wantAt 6 f_this_house_wantAt, aI cI q_this_house_stands 4 f_this_house_stands, aI cI q_this_house_standAt 6 f_this_house_standAt] H := hP
    replace hD : va_D A [ob q_this 4 [.ref q_this_house, .int r_7, .ref q_this_row, .int v_this_size], ob q_this_house 2 [.int v_this_house_floors, .int v_this_house_riders, .int v_this_house_strangers, .ref q_this_house_wants, .ref q_this_house_stands, .ref q_this_house_wantAt, .ref q_this_house_standAt], aI cI q_this_house_wants 4 f_this_house_wants, aI cI q_this_house_wantAt 6 f_this_house_wantAt, aI cI q_this_house_stands 4 f_this_house_stands, aI cI q_this_house_standAt 6 f_this_house_standAt] := hD
    refine lv_aload_n hx hb dX5_addRider_24 rfl (lv_at hl 0 rfl) ?_
    refine va_get (D := D) (ci := 4) (v := .ref q_this_house) (C := RX5) (T := TX5) (N := 4) hx hb ht inX5 hown hK hP 0 rfl rfl 0 (by decide) (ht _ mw_89) (fun _ h9 => h9) rfl dX5_addRider_25 ?_
    refine lv_iload_n hx hb dX5_addRider_28 rfl (lv_at hl 1 rfl) ?_
    refine lv_iload_n hx hb dX5_addRider_29 rfl (lv_at hl 2 rfl) ?_
    refine kCv5 (kRV hx hb hml hown ht hN hK hP hD (c_X3_addRider l D cI cJ cZ cR q_this_house q_this_house_wants q_this_house_stands q_this_house_wantAt q_this_house_standAt v_this_house_floors v_this_house_riders v_this_house_strangers f_this_house_wants f_this_house_wantAt f_this_house_stands f_this_house_standAt p0 p1 _ hw) [1, 2, 3, 4, 5] rfl rfl (T := TX3) (N := 7) rfl rfl mw_325 mw_326 mw_327 mw_5 mw_328 hdX3_addRider ⟨Nat.le_of_ble_eq_true rfl, Nat.le_of_ble_eq_true rfl⟩ ⟨rfl, rfl⟩ hl.1 rfl (Nat.le_of_ble_eq_true rfl) dX5_addRider_30 ⟨Nat.zero_le _, Nat.zero_le _⟩) hP hD hS hA [1, 2, 3, 4, 5] [0] [0, 1, 2, 3, 4, 5] rfl rfl rfl rfl (fun v_8 f_9 f_10 f_11 f_12 => [ob q_this 4 [.ref q_this_house, .int r_7, .ref q_this_row, .int v_this_size], ob q_this_house 2 [.int v_this_house_floors, .int v_8, .int v_this_house_strangers, .ref q_this_house_wants, .ref q_this_house_stands, .ref q_this_house_wantAt, .ref q_this_house_standAt], aI cI q_this_house_wants 4 f_9, aI cI q_this_house_wantAt 6 f_10, aI cI q_this_house_stands 4 f_11, aI cI q_this_house_standAt 6 f_12]) (fun _ _ _ _ _ => rfl) rfl (fun v_8 f_9 f_10 f_11 f_12 H locs hw hP hD hS => ?_)
    exact W.vret hx hb hr (kEv6 hw hP hD hK hS) hS.2.2 dX5_addRider_33
def wp_X4_readRider (p2 : Int32) (v_this_place : Int32) (v_p1_state : Int32) (v_p0_size : Int32) (f_p0_bytes : Nat → Int32) (v_p1_house_floors : Int32) (v_p1_house_riders : Int32) (f_p1_house_wants : Nat → Int32) (f_p1_house_wantAt : Nat → Int32) (f_p1_house_stands : Nat → Int32) (f_p1_house_standAt : Nat → Int32) (P : Int32 → Int32 → Int32 → Int32 → (Nat → Int32) → (Nat → Int32) → (Nat → Int32) → (Nat → Int32) → Prop) : Prop :=
  (∀ x_1 : Int32, x_1 = (v_this_place + (1 : Int32)) → ((p2 = 0 → ((p2 = 0 → (wp_X4_readFloor (-9 : Int32) x_1 v_p0_size f_p0_bytes v_p1_house_floors (fun r_5 v_4 => ((¬ r_5 = (-9 : Int32) → (wp_X5_addRider (-9 : Int32) r_5 v_p1_state v_p1_house_riders f_p1_house_wants f_p1_house_wantAt f_p1_house_stands f_p1_house_standAt (fun v_7 v_8 f_9 f_10 f_11 f_12 => P (1 : Int32) v_4 v_7 v_8 f_9 f_10 f_11 f_12))) ∧ (r_5 = (-9 : Int32) → P (0 : Int32) v_4 v_p1_state v_p1_house_riders f_p1_house_wants f_p1_house_wantAt f_p1_house_stands f_p1_house_standAt))))) ∧ (¬ p2 = 0 → P (0 : Int32) x_1 v_p1_state v_p1_house_riders f_p1_house_wants f_p1_house_wantAt f_p1_house_stands f_p1_house_standAt))) ∧ (¬ p2 = 0 → (wp_X4_readFloor (-9 : Int32) x_1 v_p0_size f_p0_bytes v_p1_house_floors (fun r_15 v_14 => ((p2 = 0 → (wp_X4_readFloor r_15 v_14 v_p0_size f_p0_bytes v_p1_house_floors (fun r_18 v_17 => ((¬ r_18 = (-9 : Int32) → (wp_X5_addRider r_15 r_18 v_p1_state v_p1_house_riders f_p1_house_wants f_p1_house_wantAt f_p1_house_stands f_p1_house_standAt (fun v_20 v_21 f_22 f_23 f_24 f_25 => P (1 : Int32) v_17 v_20 v_21 f_22 f_23 f_24 f_25))) ∧ (r_18 = (-9 : Int32) → P (0 : Int32) v_17 v_p1_state v_p1_house_riders f_p1_house_wants f_p1_house_wantAt f_p1_house_stands f_p1_house_standAt))))) ∧ (¬ p2 = 0 → ((¬ r_15 = (-9 : Int32) → (wp_X4_readFloor r_15 v_14 v_p0_size f_p0_bytes v_p1_house_floors (fun r_28 v_27 => ((¬ r_28 = (-9 : Int32) → (wp_X5_addRider r_15 r_28 v_p1_state v_p1_house_riders f_p1_house_wants f_p1_house_wantAt f_p1_house_stands f_p1_house_standAt (fun v_30 v_31 f_32 f_33 f_34 f_35 => P (1 : Int32) v_27 v_30 v_31 f_32 f_33 f_34 f_35))) ∧ (r_28 = (-9 : Int32) → P (0 : Int32) v_27 v_p1_state v_p1_house_riders f_p1_house_wants f_p1_house_wantAt f_p1_house_stands f_p1_house_standAt))))) ∧ (r_15 = (-9 : Int32) → P (0 : Int32) v_14 v_p1_state v_p1_house_riders f_p1_house_wants f_p1_house_wantAt f_p1_house_stands f_p1_house_standAt)))))))))
theorem hdX4_readRider : yX4_readRider.cls ≠ "java/lang/invoke/MethodHandle" ∧ yX4_readRider.cls ≠ "java/lang/invoke/VarHandle" ∧ (parseMethodDescriptor yX4_readRider.desc).map (fun d => d.parameters.length) = some 3 := by decide +kernel
set_option maxHeartbeats 4000000 in
set_option maxRecDepth 100000 in
theorem c_X4_readRider (l : Launch) (D : va_G) (cI cJ cZ cR : ClassId) (q_this q_p1 q_p1_house q_p1_row q_p0 q_p0_bytes q_p1_house_wants q_p1_house_stands q_p1_house_wantAt q_p1_house_standAt : Nat) (v_this_place : Int32) (v_p1_state : Int32) (v_p1_size : Int32) (v_p0_size : Int32) (f_p0_bytes : Nat → Int32) (v_p1_house_floors : Int32) (v_p1_house_riders : Int32) (v_p1_house_strangers : Int32) (f_p1_house_wants : Nat → Int32) (f_p1_house_wantAt : Nat → Int32) (f_p1_house_stands : Nat → Int32) (f_p1_house_standAt : Nat → Int32) (p2 : Int32) (P : Int32 → Int32 → Int32 → Int32 → (Nat → Int32) → (Nat → Int32) → (Nat → Int32) → (Nat → Int32) → Prop) (hw : wp_X4_readRider p2 v_this_place v_p1_state v_p0_size f_p0_bytes v_p1_house_floors v_p1_house_riders f_p1_house_wants f_p1_house_wantAt f_p1_house_stands f_p1_house_standAt P) : kM l yX4_readRider cX4_readRider 6 (some .boolean) { frames := 3, cells := 0, slots := 0, locals := 66 } D (kTy cI cJ cZ cR) [.ref q_this, .ref q_p0, .ref q_p1, .int p2] [ob q_this 3 [.int v_this_place], ob q_p1 4 [.ref q_p1_house, .int v_p1_state, .ref q_p1_row, .int v_p1_size], ob q_p0 7 [.ref q_p0_bytes, .int v_p0_size], aI cI q_p0_bytes 40 f_p0_bytes, ob q_p1_house 2 [.int v_p1_house_floors, .int v_p1_house_riders, .int v_p1_house_strangers, .ref q_p1_house_wants, .ref q_p1_house_stands, .ref q_p1_house_wantAt, .ref q_p1_house_standAt], aI cI q_p1_house_wants 4 f_p1_house_wants, aI cI q_p1_house_wantAt 6 f_p1_house_wantAt, aI cI q_p1_house_stands 4 f_p1_house_stands, aI cI q_p1_house_standAt 6 f_p1_house_standAt] (kQi7 D (kTy cI cJ cZ cR) P (fun y0 y1 y2 y3 y4 y5 y6 => [ob q_this 3 [.int y0], ob q_p1 4 [.ref q_p1_house, .int y1, .ref q_p1_row, .int v_p1_size], ob q_p0 7 [.ref q_p0_bytes, .int v_p0_size], aI cI q_p0_bytes 40 f_p0_bytes, ob q_p1_house 2 [.int v_p1_house_floors, .int y2, .int v_p1_house_strangers, .ref q_p1_house_wants, .ref q_p1_house_stands, .ref q_p1_house_wantAt, .ref q_p1_house_standAt], aI cI q_p1_house_wants 4 y3, aI cI q_p1_house_wantAt 6 y4, aI cI q_p1_house_stands 4 y5, aI cI q_p1_house_standAt 6 y6])) 0 0 := by
  refine kM.of (by decide) (Nat.le_of_ble_eq_true rfl) ?_
  intro p e s m args below meth c A ls hx hb hr ht hown hlocks hml hN hin hA hK hP hD hS hl
  replace hl : lv_has ls 6 [(0, .ref q_this), (1, .ref q_p0), (2, .ref q_p1), (3, .int p2)] := hl
  obtain ⟨H, hH⟩ : ∃ H : Heap, H = s.heap := ⟨_, rfl⟩
  obtain ⟨locs, hlc⟩ : ∃ L : List Loc, L = [] := ⟨_, rfl⟩
  replace hP : va_P D kCl [ob q_this 3 [.int v_this_place], ob q_p1 4 [.ref q_p1_house, .int v_p1_state, .ref q_p1_row, .int v_p1_size], ob q_p0 7 [.ref q_p0_bytes, .int v_p0_size], aI cI q_p0_bytes 40 f_p0_bytes, ob q_p1_house 2 [.int v_p1_house_floors, .int v_p1_house_riders, .int v_p1_house_strangers, .ref q_p1_house_wants, .ref q_p1_house_stands, .ref q_p1_house_wantAt, .ref q_p1_house_standAt], aI cI q_p1_house_wants 4 f_p1_house_wants, aI cI q_p1_house_wantAt 6 f_p1_house_wantAt, aI cI q_p1_house_stands 4 f_p1_house_stands, aI cI q_p1_house_standAt 6 f_p1_house_standAt] H := by rw [hH]; exact hP
  replace hS : va_S A s.heap H locs := by rw [hH, hlc]; exact hS
  replace hD : va_D A [ob q_this 3 [.int v_this_place], ob q_p1 4 [.ref q_p1_house, .int v_p1_state, .ref q_p1_row, .int v_p1_size], ob q_p0 7 [.ref q_p0_bytes, .int v_p0_size], aI cI q_p0_bytes 40 f_p0_bytes, ob q_p1_house 2 [.int v_p1_house_floors, .int v_p1_house_riders, .int v_p1_house_strangers, .ref q_p1_house_wants, .ref q_p1_house_stands, .ref q_p1_house_wantAt, .ref q_p1_house_standAt], aI cI q_p1_house_wants 4 f_p1_house_wants, aI cI q_p1_house_wantAt 6 f_p1_house_wantAt, aI cI q_p1_house_stands 4 f_p1_house_stands, aI cI q_p1_house_standAt 6 f_p1_house_standAt] := hD
  rw [show W p l e _ s m args below meth c s.heap [] 0 0 _ _ = W p l e _ s m args below meth c H locs 0 0 _ _ from by rw [hH, hlc]]
  unfold wp_X4_readRider at hw
  refine lv_aload_n hx hb dX4_readRider_0 rfl (lv_at hl 0 rfl) ?_
  refine lv_dup hx hb dX4_readRider_1 rfl ?_
  refine va_get (D := D) (ci := 3) (v := .int v_this_place) (C := RX4) (T := TX4) (N := 1) hx hb ht inX4 hown hK hP 0 rfl rfl 0 (by decide) (ht _ mw_45) (fun _ h9 => h9) rfl dX4_readRider_2 ?_
  refine lv_iconst (v := (1 : Int32)) hx hb dX4_readRider_5 (by decide) ?_
  refine lv_iadd hx hb dX4_readRider_6 ?_
  refine lv_topi (fun x_1 ex_1 => ?_)
  replace hw := hw x_1 ex_1
  refine va_put (D := D) (ci := 3) (v := .int x_1) (ty := .int) (C := RX4) (T := TX4) (N := 1) hx hb ht inX4 tyX4 tyX4_ok nmX4 hown hK hP hD hS 0 rfl rfl 0 (by decide) (ht _ mw_45) (fun _ h9 => h9) rfl (by decide +kernel) rfl rfl (Nat.le_of_ble_eq_true rfl) dX4_readRider_7 (fun H locs hP hD hS => ?_)
  replace hP : va_P D kCl [ob q_this 3 [.int x_1], ob q_p1 4 [.ref q_p1_house, .int v_p1_state, .ref q_p1_row, .int v_p1_size], ob q_p0 7 [.ref q_p0_bytes, .int v_p0_size], aI cI q_p0_bytes 40 f_p0_bytes, ob q_p1_house 2 [.int v_p1_house_floors, .int v_p1_house_riders, .int v_p1_house_strangers, .ref q_p1_house_wants, .ref q_p1_house_stands, .ref q_p1_house_wantAt, .ref q_p1_house_standAt], aI cI q_p1_house_wants 4 f_p1_house_wants, aI cI q_p1_house_wantAt 6 f_p1_house_wantAt, aI cI q_p1_house_stands 4 f_p1_house_stands, aI cI q_p1_house_standAt 6 f_p1_house_standAt] H := hP
  replace hD : va_D A [ob q_this 3 [.int x_1], ob q_p1 4 [.ref q_p1_house, .int v_p1_state, .ref q_p1_row, .int v_p1_size], ob q_p0 7 [.ref q_p0_bytes, .int v_p0_size], aI cI q_p0_bytes 40 f_p0_bytes, ob q_p1_house 2 [.int v_p1_house_floors, .int v_p1_house_riders, .int v_p1_house_strangers, .ref q_p1_house_wants, .ref q_p1_house_stands, .ref q_p1_house_wantAt, .ref q_p1_house_standAt], aI cI q_p1_house_wants 4 f_p1_house_wants, aI cI q_p1_house_wantAt 6 f_p1_house_wantAt, aI cI q_p1_house_stands 4 f_p1_house_stands, aI cI q_p1_house_standAt 6 f_p1_house_standAt] := hD
  refine lv_iload_n hx hb dX4_readRider_10 rfl (lv_at hl 3 rfl) ?_
  refine lv_if_eq (tgt := 28) hx hb dX4_readRider_11 (by decide) (fun c_2 => ?_) (fun c_2 => ?_)
  · replace hw := hw.1 c_2
    refine lv_bipush (v := (-9 : Int32)) hx hb dX4_readRider_28 (by decide) ?_
    refine lv_istore (lv' := [(4, .int (-9 : Int32)), (0, .ref q_this), (1, .ref q_p0), (2, .ref q_p1), (3, .int p2)]) hx hb dX4_readRider_30 hl (by decide) rfl (fun ls hl => ?_)
    refine lv_iload_n hx hb dX4_readRider_32 rfl (lv_at hl 4 rfl) ?_
    refine lv_if_eq (tgt := 45) hx hb dX4_readRider_33 (by decide) (fun c_3 => ?_) (fun c_3 => ?_)
    · replace hw := hw.1 c_3
      refine lv_aload_n hx hb dX4_readRider_45 rfl (lv_at hl 1 rfl) ?_
      refine lv_aload_n hx hb dX4_readRider_46 rfl (lv_at hl 2 rfl) ?_
      refine lv_aload_n hx hb dX4_readRider_47 rfl (lv_at hl 3 rfl) ?_
      refine va_getN (D := D) (ci := 4) (v := .ref q_p1_house) (C := RX5) (T := TX5) (N := 4) hx hb ht inX5 hown hK hP 1 rfl rfl 0 (by decide) (va_Nw.use rfl (hN.1 _ mn_90)) (fun _ h9 => h9) rfl dX4_readRider_48 ?_
      refine lv_iload hx hb dX4_readRider_51 (lv_at hl 0 rfl) ?_
      refine kCi1 (kRV hx hb hml hown ht hN hK hP hD (c_X4_readFloor l D cI cJ cZ cR q_this q_p0 q_p0_bytes q_p1_house q_p1_house_wants q_p1_house_stands q_p1_house_wantAt q_p1_house_standAt x_1 v_p0_size f_p0_bytes v_p1_house_floors v_p1_house_riders v_p1_house_strangers (-9 : Int32) _ hw) [0, 2, 3, 4] rfl rfl (T := TX4) (N := 1) rfl rfl mw_310 mw_312 ms_2 mw_3 mw_313 hdX4_readFloor ⟨Nat.le_of_ble_eq_true rfl, Nat.le_of_ble_eq_true rfl⟩ ⟨rfl, rfl⟩ hl.1 rfl (Nat.le_of_ble_eq_true rfl) dX4_readRider_53 ⟨Nat.zero_le _, Nat.zero_le _⟩) hP hD hS hA [0, 2, 3, 4] [1, 5, 6, 7, 8] [5, 0, 6, 7, 8, 1, 2, 3, 4] rfl rfl rfl rfl (fun v_4 => [ob q_this 3 [.int v_4], ob q_p1 4 [.ref q_p1_house, .int v_p1_state, .ref q_p1_row, .int v_p1_size], ob q_p0 7 [.ref q_p0_bytes, .int v_p0_size], aI cI q_p0_bytes 40 f_p0_bytes, ob q_p1_house 2 [.int v_p1_house_floors, .int v_p1_house_riders, .int v_p1_house_strangers, .ref q_p1_house_wants, .ref q_p1_house_stands, .ref q_p1_house_wantAt, .ref q_p1_house_standAt], aI cI q_p1_house_wants 4 f_p1_house_wants, aI cI q_p1_house_wantAt 6 f_p1_house_wantAt, aI cI q_p1_house_stands 4 f_p1_house_stands, aI cI q_p1_house_standAt 6 f_p1_house_standAt]) (fun _ => rfl) rfl (fun r_5 v_4 H locs hw hP hD hS => ?_)
      refine lv_istore (lv' := [(5, .int r_5), (4, .int (-9 : Int32)), (0, .ref q_this), (1, .ref q_p0), (2, .ref q_p1), (3, .int p2)]) hx hb dX4_readRider_56 hl (by decide) rfl (fun ls hl => ?_)
      refine lv_iload hx hb dX4_readRider_58 (lv_at hl 0 rfl) ?_
      refine lv_bipush (v := (-9 : Int32)) hx hb dX4_readRider_60 (by decide) ?_
      refine lv_icmp_ne (tgt := 67) hx hb dX4_readRider_62 (by decide) (fun c_6 => ?_) (fun c_6 => ?_)
      · replace hw := hw.1 c_6
        refine lv_aload_n hx hb dX4_readRider_67 rfl (lv_at hl 4 rfl) ?_
        refine lv_iload hx hb dX4_readRider_68 (lv_at hl 1 rfl) ?_
        refine lv_iload hx hb dX4_readRider_70 (lv_at hl 0 rfl) ?_
        refine kCv6 (kRV hx hb hml hown ht hN hK hP hD (c_X5_addRider l D cI cJ cZ cR q_p1 q_p1_house q_p1_row q_p1_house_wants q_p1_house_stands q_p1_house_wantAt q_p1_house_standAt v_p1_state v_p1_size v_p1_house_floors v_p1_house_riders v_p1_house_strangers f_p1_house_wants f_p1_house_wantAt f_p1_house_stands f_p1_house_standAt (-9 : Int32) r_5 _ hw) [1, 4, 5, 6, 7, 8] rfl rfl (T := TX5) (N := 4) rfl rfl mw_318 mw_319 mw_320 mw_4 mw_321 hdX5_addRider ⟨Nat.le_of_ble_eq_true rfl, Nat.le_of_ble_eq_true rfl⟩ ⟨rfl, rfl⟩ hl.1 rfl (Nat.le_of_ble_eq_true rfl) dX4_readRider_72 ⟨Nat.zero_le _, Nat.zero_le _⟩) hP hD hS hA [1, 4, 5, 6, 7, 8] [0, 2, 3] [0, 3, 1, 2, 4, 5, 6, 7, 8] rfl rfl rfl rfl (fun v_7 v_8 f_9 f_10 f_11 f_12 => [ob q_this 3 [.int v_4], ob q_p1 4 [.ref q_p1_house, .int v_7, .ref q_p1_row, .int v_p1_size], ob q_p0 7 [.ref q_p0_bytes, .int v_p0_size], aI cI q_p0_bytes 40 f_p0_bytes, ob q_p1_house 2 [.int v_p1_house_floors, .int v_8, .int v_p1_house_strangers, .ref q_p1_house_wants, .ref q_p1_house_stands, .ref q_p1_house_wantAt, .ref q_p1_house_standAt], aI cI q_p1_house_wants 4 f_9, aI cI q_p1_house_wantAt 6 f_10, aI cI q_p1_house_stands 4 f_11, aI cI q_p1_house_standAt 6 f_12]) (fun _ _ _ _ _ _ => rfl) rfl (fun v_7 v_8 f_9 f_10 f_11 f_12 H locs hw hP hD hS => ?_)
        refine lv_iconst (v := (1 : Int32)) hx hb dX4_readRider_75 (by decide) ?_
        exact W.zret (v := (1 : Int32)) (ty := .boolean) hx hb hr rfl (kEi7 hw hP hD hK hS) hS.2.2 dX4_readRider_76
      · replace hw := hw.2 c_6
        refine lv_iconst (v := (0 : Int32)) hx hb dX4_readRider_65 (by decide) ?_
        exact W.zret (v := (0 : Int32)) (ty := .boolean) hx hb hr rfl (kEi7 hw hP hD hK hS) hS.2.2 dX4_readRider_66
    · replace hw := hw.2 c_3
      refine lv_iload hx hb dX4_readRider_36 (lv_at hl 0 rfl) ?_
      refine lv_bipush (v := (-9 : Int32)) hx hb dX4_readRider_38 (by decide) ?_
      refine lv_icmp_ne (tgt := 45) hx hb dX4_readRider_40 (by decide) (fun c_13 => absurd c_13 (by decide)) (fun _ => ?_)
      refine lv_iconst (v := (0 : Int32)) hx hb dX4_readRider_43 (by decide) ?_
      exact W.zret (v := (0 : Int32)) (ty := .boolean) hx hb hr rfl (kEi7 hw hP hD hK hS) hS.2.2 dX4_readRider_44
  · replace hw := hw.2 c_2
    refine lv_aload_n hx hb dX4_readRider_14 rfl (lv_at hl 0 rfl) ?_
    refine lv_aload_n hx hb dX4_readRider_15 rfl (lv_at hl 1 rfl) ?_
    refine lv_aload_n hx hb dX4_readRider_16 rfl (lv_at hl 2 rfl) ?_
    refine va_getN (D := D) (ci := 4) (v := .ref q_p1_house) (C := RX5) (T := TX5) (N := 4) hx hb ht inX5 hown hK hP 1 rfl rfl 0 (by decide) (va_Nw.use rfl (hN.1 _ mn_90)) (fun _ h9 => h9) rfl dX4_readRider_17 ?_
    refine lv_bipush (v := (-9 : Int32)) hx hb dX4_readRider_20 (by decide) ?_
    refine kCi1 (kRV hx hb hml hown ht hN hK hP hD (c_X4_readFloor l D cI cJ cZ cR q_this q_p0 q_p0_bytes q_p1_house q_p1_house_wants q_p1_house_stands q_p1_house_wantAt q_p1_house_standAt x_1 v_p0_size f_p0_bytes v_p1_house_floors v_p1_house_riders v_p1_house_strangers (-9 : Int32) _ hw) [0, 2, 3, 4] rfl rfl (T := TX4) (N := 1) rfl rfl mw_310 mw_312 ms_2 mw_3 mw_313 hdX4_readFloor ⟨Nat.le_of_ble_eq_true rfl, Nat.le_of_ble_eq_true rfl⟩ ⟨rfl, rfl⟩ hl.1 rfl (Nat.le_of_ble_eq_true rfl) dX4_readRider_22 ⟨Nat.zero_le _, Nat.zero_le _⟩) hP hD hS hA [0, 2, 3, 4] [1, 5, 6, 7, 8] [5, 0, 6, 7, 8, 1, 2, 3, 4] rfl rfl rfl rfl (fun v_14 => [ob q_this 3 [.int v_14], ob q_p1 4 [.ref q_p1_house, .int v_p1_state, .ref q_p1_row, .int v_p1_size], ob q_p0 7 [.ref q_p0_bytes, .int v_p0_size], aI cI q_p0_bytes 40 f_p0_bytes, ob q_p1_house 2 [.int v_p1_house_floors, .int v_p1_house_riders, .int v_p1_house_strangers, .ref q_p1_house_wants, .ref q_p1_house_stands, .ref q_p1_house_wantAt, .ref q_p1_house_standAt], aI cI q_p1_house_wants 4 f_p1_house_wants, aI cI q_p1_house_wantAt 6 f_p1_house_wantAt, aI cI q_p1_house_stands 4 f_p1_house_stands, aI cI q_p1_house_standAt 6 f_p1_house_standAt]) (fun _ => rfl) rfl (fun r_15 v_14 H locs hw hP hD hS => ?_)
    refine lv_goto (tgt := 30) hx hb dX4_readRider_25 (by decide) ?_
    refine lv_istore (lv' := [(4, .int r_15), (0, .ref q_this), (1, .ref q_p0), (2, .ref q_p1), (3, .int p2)]) hx hb dX4_readRider_30 hl (by decide) rfl (fun ls hl => ?_)
    refine lv_iload_n hx hb dX4_readRider_32 rfl (lv_at hl 4 rfl) ?_
    refine lv_if_eq (tgt := 45) hx hb dX4_readRider_33 (by decide) (fun c_16 => ?_) (fun c_16 => ?_)
    · replace hw := hw.1 c_16
      refine lv_aload_n hx hb dX4_readRider_45 rfl (lv_at hl 1 rfl) ?_
      refine lv_aload_n hx hb dX4_readRider_46 rfl (lv_at hl 2 rfl) ?_
      refine lv_aload_n hx hb dX4_readRider_47 rfl (lv_at hl 3 rfl) ?_
      refine va_getN (D := D) (ci := 4) (v := .ref q_p1_house) (C := RX5) (T := TX5) (N := 4) hx hb ht inX5 hown hK hP 1 rfl rfl 0 (by decide) (va_Nw.use rfl (hN.1 _ mn_90)) (fun _ h9 => h9) rfl dX4_readRider_48 ?_
      refine lv_iload hx hb dX4_readRider_51 (lv_at hl 0 rfl) ?_
      refine kCi1 (kRV hx hb hml hown ht hN hK hP hD (c_X4_readFloor l D cI cJ cZ cR q_this q_p0 q_p0_bytes q_p1_house q_p1_house_wants q_p1_house_stands q_p1_house_wantAt q_p1_house_standAt v_14 v_p0_size f_p0_bytes v_p1_house_floors v_p1_house_riders v_p1_house_strangers r_15 _ hw) [0, 2, 3, 4] rfl rfl (T := TX4) (N := 1) rfl rfl mw_310 mw_312 ms_2 mw_3 mw_313 hdX4_readFloor ⟨Nat.le_of_ble_eq_true rfl, Nat.le_of_ble_eq_true rfl⟩ ⟨rfl, rfl⟩ hl.1 rfl (Nat.le_of_ble_eq_true rfl) dX4_readRider_53 ⟨Nat.zero_le _, Nat.zero_le _⟩) hP hD hS hA [0, 2, 3, 4] [1, 5, 6, 7, 8] [5, 0, 6, 7, 8, 1, 2, 3, 4] rfl rfl rfl rfl (fun v_17 => [ob q_this 3 [.int v_17], ob q_p1 4 [.ref q_p1_house, .int v_p1_state, .ref q_p1_row, .int v_p1_size], ob q_p0 7 [.ref q_p0_bytes, .int v_p0_size], aI cI q_p0_bytes 40 f_p0_bytes, ob q_p1_house 2 [.int v_p1_house_floors, .int v_p1_house_riders, .int v_p1_house_strangers, .ref q_p1_house_wants, .ref q_p1_house_stands, .ref q_p1_house_wantAt, .ref q_p1_house_standAt], aI cI q_p1_house_wants 4 f_p1_house_wants, aI cI q_p1_house_wantAt 6 f_p1_house_wantAt, aI cI q_p1_house_stands 4 f_p1_house_stands, aI cI q_p1_house_standAt 6 f_p1_house_standAt]) (fun _ => rfl) rfl (fun r_18 v_17 H locs hw hP hD hS => ?_)
      refine lv_istore (lv' := [(5, .int r_18), (4, .int r_15), (0, .ref q_this), (1, .ref q_p0), (2, .ref q_p1), (3, .int p2)]) hx hb dX4_readRider_56 hl (by decide) rfl (fun ls hl => ?_)
      refine lv_iload hx hb dX4_readRider_58 (lv_at hl 0 rfl) ?_
      refine lv_bipush (v := (-9 : Int32)) hx hb dX4_readRider_60 (by decide) ?_
      refine lv_icmp_ne (tgt := 67) hx hb dX4_readRider_62 (by decide) (fun c_19 => ?_) (fun c_19 => ?_)
      · replace hw := hw.1 c_19
        refine lv_aload_n hx hb dX4_readRider_67 rfl (lv_at hl 4 rfl) ?_
        refine lv_iload hx hb dX4_readRider_68 (lv_at hl 1 rfl) ?_
        refine lv_iload hx hb dX4_readRider_70 (lv_at hl 0 rfl) ?_
        refine kCv6 (kRV hx hb hml hown ht hN hK hP hD (c_X5_addRider l D cI cJ cZ cR q_p1 q_p1_house q_p1_row q_p1_house_wants q_p1_house_stands q_p1_house_wantAt q_p1_house_standAt v_p1_state v_p1_size v_p1_house_floors v_p1_house_riders v_p1_house_strangers f_p1_house_wants f_p1_house_wantAt f_p1_house_stands f_p1_house_standAt r_15 r_18 _ hw) [1, 4, 5, 6, 7, 8] rfl rfl (T := TX5) (N := 4) rfl rfl mw_318 mw_319 mw_320 mw_4 mw_321 hdX5_addRider ⟨Nat.le_of_ble_eq_true rfl, Nat.le_of_ble_eq_true rfl⟩ ⟨rfl, rfl⟩ hl.1 rfl (Nat.le_of_ble_eq_true rfl) dX4_readRider_72 ⟨Nat.zero_le _, Nat.zero_le _⟩) hP hD hS hA [1, 4, 5, 6, 7, 8] [0, 2, 3] [0, 3, 1, 2, 4, 5, 6, 7, 8] rfl rfl rfl rfl (fun v_20 v_21 f_22 f_23 f_24 f_25 => [ob q_this 3 [.int v_17], ob q_p1 4 [.ref q_p1_house, .int v_20, .ref q_p1_row, .int v_p1_size], ob q_p0 7 [.ref q_p0_bytes, .int v_p0_size], aI cI q_p0_bytes 40 f_p0_bytes, ob q_p1_house 2 [.int v_p1_house_floors, .int v_21, .int v_p1_house_strangers, .ref q_p1_house_wants, .ref q_p1_house_stands, .ref q_p1_house_wantAt, .ref q_p1_house_standAt], aI cI q_p1_house_wants 4 f_22, aI cI q_p1_house_wantAt 6 f_23, aI cI q_p1_house_stands 4 f_24, aI cI q_p1_house_standAt 6 f_25]) (fun _ _ _ _ _ _ => rfl) rfl (fun v_20 v_21 f_22 f_23 f_24 f_25 H locs hw hP hD hS => ?_)
        refine lv_iconst (v := (1 : Int32)) hx hb dX4_readRider_75 (by decide) ?_
        exact W.zret (v := (1 : Int32)) (ty := .boolean) hx hb hr rfl (kEi7 hw hP hD hK hS) hS.2.2 dX4_readRider_76
      · replace hw := hw.2 c_19
        refine lv_iconst (v := (0 : Int32)) hx hb dX4_readRider_65 (by decide) ?_
        exact W.zret (v := (0 : Int32)) (ty := .boolean) hx hb hr rfl (kEi7 hw hP hD hK hS) hS.2.2 dX4_readRider_66
    · replace hw := hw.2 c_16
      refine lv_iload hx hb dX4_readRider_36 (lv_at hl 0 rfl) ?_
      refine lv_bipush (v := (-9 : Int32)) hx hb dX4_readRider_38 (by decide) ?_
      refine lv_icmp_ne (tgt := 45) hx hb dX4_readRider_40 (by decide) (fun c_26 => ?_) (fun c_26 => ?_)
      · replace hw := hw.1 c_26
        refine lv_aload_n hx hb dX4_readRider_45 rfl (lv_at hl 1 rfl) ?_
        refine lv_aload_n hx hb dX4_readRider_46 rfl (lv_at hl 2 rfl) ?_
        refine lv_aload_n hx hb dX4_readRider_47 rfl (lv_at hl 3 rfl) ?_
        refine va_getN (D := D) (ci := 4) (v := .ref q_p1_house) (C := RX5) (T := TX5) (N := 4) hx hb ht inX5 hown hK hP 1 rfl rfl 0 (by decide) (va_Nw.use rfl (hN.1 _ mn_90)) (fun _ h9 => h9) rfl dX4_readRider_48 ?_
        refine lv_iload hx hb dX4_readRider_51 (lv_at hl 0 rfl) ?_
        refine kCi1 (kRV hx hb hml hown ht hN hK hP hD (c_X4_readFloor l D cI cJ cZ cR q_this q_p0 q_p0_bytes q_p1_house q_p1_house_wants q_p1_house_stands q_p1_house_wantAt q_p1_house_standAt v_14 v_p0_size f_p0_bytes v_p1_house_floors v_p1_house_riders v_p1_house_strangers r_15 _ hw) [0, 2, 3, 4] rfl rfl (T := TX4) (N := 1) rfl rfl mw_310 mw_312 ms_2 mw_3 mw_313 hdX4_readFloor ⟨Nat.le_of_ble_eq_true rfl, Nat.le_of_ble_eq_true rfl⟩ ⟨rfl, rfl⟩ hl.1 rfl (Nat.le_of_ble_eq_true rfl) dX4_readRider_53 ⟨Nat.zero_le _, Nat.zero_le _⟩) hP hD hS hA [0, 2, 3, 4] [1, 5, 6, 7, 8] [5, 0, 6, 7, 8, 1, 2, 3, 4] rfl rfl rfl rfl (fun v_27 => [ob q_this 3 [.int v_27], ob q_p1 4 [.ref q_p1_house, .int v_p1_state, .ref q_p1_row, .int v_p1_size], ob q_p0 7 [.ref q_p0_bytes, .int v_p0_size], aI cI q_p0_bytes 40 f_p0_bytes, ob q_p1_house 2 [.int v_p1_house_floors, .int v_p1_house_riders, .int v_p1_house_strangers, .ref q_p1_house_wants, .ref q_p1_house_stands, .ref q_p1_house_wantAt, .ref q_p1_house_standAt], aI cI q_p1_house_wants 4 f_p1_house_wants, aI cI q_p1_house_wantAt 6 f_p1_house_wantAt, aI cI q_p1_house_stands 4 f_p1_house_stands, aI cI q_p1_house_standAt 6 f_p1_house_standAt]) (fun _ => rfl) rfl (fun r_28 v_27 H locs hw hP hD hS => ?_)
        refine lv_istore (lv' := [(5, .int r_28), (4, .int r_15), (0, .ref q_this), (1, .ref q_p0), (2, .ref q_p1), (3, .int p2)]) hx hb dX4_readRider_56 hl (by decide) rfl (fun ls hl => ?_)
        refine lv_iload hx hb dX4_readRider_58 (lv_at hl 0 rfl) ?_
        refine lv_bipush (v := (-9 : Int32)) hx hb dX4_readRider_60 (by decide) ?_
        refine lv_icmp_ne (tgt := 67) hx hb dX4_readRider_62 (by decide) (fun c_29 => ?_) (fun c_29 => ?_)
        · replace hw := hw.1 c_29
          refine lv_aload_n hx hb dX4_readRider_67 rfl (lv_at hl 4 rfl) ?_
          refine lv_iload hx hb dX4_readRider_68 (lv_at hl 1 rfl) ?_
          refine lv_iload hx hb dX4_readRider_70 (lv_at hl 0 rfl) ?_
          refine kCv6 (kRV hx hb hml hown ht hN hK hP hD (c_X5_addRider l D cI cJ cZ cR q_p1 q_p1_house q_p1_row q_p1_house_wants q_p1_house_stands q_p1_house_wantAt q_p1_house_standAt v_p1_state v_p1_size v_p1_house_floors v_p1_house_riders v_p1_house_strangers f_p1_house_wants f_p1_house_wantAt f_p1_house_stands f_p1_house_standAt r_15 r_28 _ hw) [1, 4, 5, 6, 7, 8] rfl rfl (T := TX5) (N := 4) rfl rfl mw_318 mw_319 mw_320 mw_4 mw_321 hdX5_addRider ⟨Nat.le_of_ble_eq_true rfl, Nat.le_of_ble_eq_true rfl⟩ ⟨rfl, rfl⟩ hl.1 rfl (Nat.le_of_ble_eq_true rfl) dX4_readRider_72 ⟨Nat.zero_le _, Nat.zero_le _⟩) hP hD hS hA [1, 4, 5, 6, 7, 8] [0, 2, 3] [0, 3, 1, 2, 4, 5, 6, 7, 8] rfl rfl rfl rfl (fun v_30 v_31 f_32 f_33 f_34 f_35 => [ob q_this 3 [.int v_27], ob q_p1 4 [.ref q_p1_house, .int v_30, .ref q_p1_row, .int v_p1_size], ob q_p0 7 [.ref q_p0_bytes, .int v_p0_size], aI cI q_p0_bytes 40 f_p0_bytes, ob q_p1_house 2 [.int v_p1_house_floors, .int v_31, .int v_p1_house_strangers, .ref q_p1_house_wants, .ref q_p1_house_stands, .ref q_p1_house_wantAt, .ref q_p1_house_standAt], aI cI q_p1_house_wants 4 f_32, aI cI q_p1_house_wantAt 6 f_33, aI cI q_p1_house_stands 4 f_34, aI cI q_p1_house_standAt 6 f_35]) (fun _ _ _ _ _ _ => rfl) rfl (fun v_30 v_31 f_32 f_33 f_34 f_35 H locs hw hP hD hS => ?_)
          refine lv_iconst (v := (1 : Int32)) hx hb dX4_readRider_75 (by decide) ?_
          exact W.zret (v := (1 : Int32)) (ty := .boolean) hx hb hr rfl (kEi7 hw hP hD hK hS) hS.2.2 dX4_readRider_76
        · replace hw := hw.2 c_29
          refine lv_iconst (v := (0 : Int32)) hx hb dX4_readRider_65 (by decide) ?_
          exact W.zret (v := (0 : Int32)) (ty := .boolean) hx hb hr rfl (kEi7 hw hP hD hK hS) hS.2.2 dX4_readRider_66
      · replace hw := hw.2 c_26
        refine lv_iconst (v := (0 : Int32)) hx hb dX4_readRider_43 (by decide) ?_
        exact W.zret (v := (0 : Int32)) (ty := .boolean) hx hb hr rfl (kEi7 hw hP hD hK hS) hS.2.2 dX4_readRider_44
def wp_X8_withStrangers (p0 : Int32) (p1 : Int32) (p2 : Int32) (P : Int32 → Prop) : Prop :=
  ((¬ (p1 &&& (16 : Int32)) = 0 → (∀ x_2 : Int32, x_2 = ((p0 &&& (-1793 : Int32)) ||| (p2 <<< ((8 : Int32) &&& 31))) → ((¬ (p1 &&& (32 : Int32)) = 0 → P ((x_2 &&& (-14337 : Int32)) ||| (p2 <<< ((11 : Int32) &&& 31)))) ∧ ((p1 &&& (32 : Int32)) = 0 → P x_2)))) ∧ ((p1 &&& (16 : Int32)) = 0 → ((¬ (p1 &&& (32 : Int32)) = 0 → P ((p0 &&& (-14337 : Int32)) ||| (p2 <<< ((11 : Int32) &&& 31)))) ∧ ((p1 &&& (32 : Int32)) = 0 → P p0))))
theorem hdX8_withStrangers : yX8_withStrangers.cls ≠ "java/lang/invoke/MethodHandle" ∧ yX8_withStrangers.cls ≠ "java/lang/invoke/VarHandle" ∧ (parseMethodDescriptor yX8_withStrangers.desc).map (fun d => d.parameters.length) = some 3 := by decide +kernel
set_option maxHeartbeats 4000000 in
set_option maxRecDepth 100000 in
theorem c_X8_withStrangers (l : Launch) (D : va_G) (cI cJ cZ cR : ClassId) (p0 : Int32) (p1 : Int32) (p2 : Int32) (P : Int32 → Prop) (hw : wp_X8_withStrangers p0 p1 p2 P) : kM l yX8_withStrangers cX8_withStrangers 4 (some .int) { frames := 0, cells := 0, slots := 0, locals := 0 } D (kTy cI cJ cZ cR) [.int p0, .int p1, .int p2] [] (kQi0 D (kTy cI cJ cZ cR) P []) 0 0 := by
  refine kM.of (by decide) (Nat.le_of_ble_eq_true rfl) ?_
  intro p e s m args below meth c A ls hx hb hr ht hown hlocks hml hN hin hA hK hP hD hS hl
  replace hl : lv_has ls 4 [(0, .int p0), (1, .int p1), (2, .int p2)] := hl
  obtain ⟨H, hH⟩ : ∃ H : Heap, H = s.heap := ⟨_, rfl⟩
  obtain ⟨locs, hlc⟩ : ∃ L : List Loc, L = [] := ⟨_, rfl⟩
  replace hP : va_P D kCl [] H := by rw [hH]; exact hP
  replace hS : va_S A s.heap H locs := by rw [hH, hlc]; exact hS
  replace hD : va_D A [] := hD
  rw [show W p l e _ s m args below meth c s.heap [] 0 0 _ _ = W p l e _ s m args below meth c H locs 0 0 _ _ from by rw [hH, hlc]]
  unfold wp_X8_withStrangers at hw
  refine lv_iload_n hx hb dX8_withStrangers_0 rfl (lv_at hl 1 rfl) ?_
  refine lv_bipush (v := (16 : Int32)) hx hb dX8_withStrangers_1 (by decide) ?_
  refine lv_iand hx hb dX8_withStrangers_3 ?_
  refine lv_if_ne (tgt := 11) hx hb dX8_withStrangers_4 (by decide) (fun c_1 => ?_) (fun c_1 => ?_)
  · replace hw := hw.1 c_1
    refine lv_iload_n hx hb dX8_withStrangers_11 rfl (lv_at hl 0 rfl) ?_
    refine lv_sipush (v := (-1793 : Int32)) hx hb dX8_withStrangers_12 (by decide) ?_
    refine lv_iand hx hb dX8_withStrangers_15 ?_
    refine lv_iload_n hx hb dX8_withStrangers_16 rfl (lv_at hl 2 rfl) ?_
    refine lv_bipush (v := (8 : Int32)) hx hb dX8_withStrangers_17 (by decide) ?_
    refine lv_ishl hx hb dX8_withStrangers_19 ?_
    refine lv_ior hx hb dX8_withStrangers_20 ?_
    refine lv_topi (fun x_2 ex_2 => ?_)
    replace hw := hw x_2 ex_2
    refine lv_istore_n (lv' := [(3, .int x_2), (0, .int p0), (1, .int p1), (2, .int p2)]) hx hb dX8_withStrangers_21 rfl hl (by decide) rfl (fun ls hl => ?_)
    refine lv_iload_n hx hb dX8_withStrangers_22 rfl (lv_at hl 2 rfl) ?_
    refine lv_bipush (v := (32 : Int32)) hx hb dX8_withStrangers_23 (by decide) ?_
    refine lv_iand hx hb dX8_withStrangers_25 ?_
    refine lv_if_ne (tgt := 33) hx hb dX8_withStrangers_26 (by decide) (fun c_3 => ?_) (fun c_3 => ?_)
    · replace hw := hw.1 c_3
      refine lv_iload_n hx hb dX8_withStrangers_33 rfl (lv_at hl 0 rfl) ?_
      refine lv_sipush (v := (-14337 : Int32)) hx hb dX8_withStrangers_34 (by decide) ?_
      refine lv_iand hx hb dX8_withStrangers_37 ?_
      refine lv_iload_n hx hb dX8_withStrangers_38 rfl (lv_at hl 3 rfl) ?_
      refine lv_bipush (v := (11 : Int32)) hx hb dX8_withStrangers_39 (by decide) ?_
      refine lv_ishl hx hb dX8_withStrangers_41 ?_
      refine lv_ior hx hb dX8_withStrangers_42 ?_
      exact W.iret (v := ((x_2 &&& (-14337 : Int32)) ||| (p2 <<< ((11 : Int32) &&& 31)))) hx hb hr (kEi0 hw hP hD hK hS) hS.2.2 dX8_withStrangers_43
    · replace hw := hw.2 c_3
      refine lv_iload_n hx hb dX8_withStrangers_29 rfl (lv_at hl 0 rfl) ?_
      refine lv_goto (tgt := 43) hx hb dX8_withStrangers_30 (by decide) ?_
      exact W.iret (v := x_2) hx hb hr (kEi0 hw hP hD hK hS) hS.2.2 dX8_withStrangers_43
  · replace hw := hw.2 c_1
    refine lv_iload_n hx hb dX8_withStrangers_7 rfl (lv_at hl 0 rfl) ?_
    refine lv_goto (tgt := 21) hx hb dX8_withStrangers_8 (by decide) ?_
    refine lv_istore_n (lv' := [(3, .int p0), (0, .int p0), (1, .int p1), (2, .int p2)]) hx hb dX8_withStrangers_21 rfl hl (by decide) rfl (fun ls hl => ?_)
    refine lv_iload_n hx hb dX8_withStrangers_22 rfl (lv_at hl 2 rfl) ?_
    refine lv_bipush (v := (32 : Int32)) hx hb dX8_withStrangers_23 (by decide) ?_
    refine lv_iand hx hb dX8_withStrangers_25 ?_
    refine lv_if_ne (tgt := 33) hx hb dX8_withStrangers_26 (by decide) (fun c_4 => ?_) (fun c_4 => ?_)
    · replace hw := hw.1 c_4
      refine lv_iload_n hx hb dX8_withStrangers_33 rfl (lv_at hl 0 rfl) ?_
      refine lv_sipush (v := (-14337 : Int32)) hx hb dX8_withStrangers_34 (by decide) ?_
      refine lv_iand hx hb dX8_withStrangers_37 ?_
      refine lv_iload_n hx hb dX8_withStrangers_38 rfl (lv_at hl 3 rfl) ?_
      refine lv_bipush (v := (11 : Int32)) hx hb dX8_withStrangers_39 (by decide) ?_
      refine lv_ishl hx hb dX8_withStrangers_41 ?_
      refine lv_ior hx hb dX8_withStrangers_42 ?_
      exact W.iret (v := ((p0 &&& (-14337 : Int32)) ||| (p2 <<< ((11 : Int32) &&& 31)))) hx hb hr (kEi0 hw hP hD hK hS) hS.2.2 dX8_withStrangers_43
    · replace hw := hw.2 c_4
      refine lv_iload_n hx hb dX8_withStrangers_29 rfl (lv_at hl 0 rfl) ?_
      refine lv_goto (tgt := 43) hx hb dX8_withStrangers_30 (by decide) ?_
      exact W.iret (v := p0) hx hb hr (kEi0 hw hP hD hK hS) hS.2.2 dX8_withStrangers_43
def wp_X5_addStranger (p0 : Int32) (v_this_state : Int32) (v_this_house_strangers : Int32) (P : Int32 → Int32 → Prop) : Prop :=
  (wp_X8_withStrangers v_this_state ((1 : Int32) <<< (((4 : Int32) + v_this_house_strangers) &&& 31)) p0 (fun r_1 => (wp_X3_addStranger v_this_house_strangers (fun v_2 => P r_1 v_2))))
theorem hdX5_addStranger : yX5_addStranger.cls ≠ "java/lang/invoke/MethodHandle" ∧ yX5_addStranger.cls ≠ "java/lang/invoke/VarHandle" ∧ (parseMethodDescriptor yX5_addStranger.desc).map (fun d => d.parameters.length) = some 1 := by decide +kernel
set_option maxHeartbeats 4000000 in
set_option maxRecDepth 100000 in
theorem c_X5_addStranger (l : Launch) (D : va_G) (cI cJ cZ cR : ClassId) (q_this q_this_house q_this_row q_this_house_wants q_this_house_stands q_this_house_wantAt q_this_house_standAt : Nat) (v_this_state : Int32) (v_this_size : Int32) (v_this_house_floors : Int32) (v_this_house_riders : Int32) (v_this_house_strangers : Int32) (p0 : Int32) (P : Int32 → Int32 → Prop) (hw : wp_X5_addStranger p0 v_this_state v_this_house_strangers P) : kM l yX5_addStranger cX5_addStranger 2 none { frames := 1, cells := 0, slots := 0, locals := 23 } D (kTy cI cJ cZ cR) [.ref q_this, .int p0] [ob q_this 4 [.ref q_this_house, .int v_this_state, .ref q_this_row, .int v_this_size], ob q_this_house 2 [.int v_this_house_floors, .int v_this_house_riders, .int v_this_house_strangers, .ref q_this_house_wants, .ref q_this_house_stands, .ref q_this_house_wantAt, .ref q_this_house_standAt]] (kQv2 D (kTy cI cJ cZ cR) P (fun y0 y1 => [ob q_this 4 [.ref q_this_house, .int y0, .ref q_this_row, .int v_this_size], ob q_this_house 2 [.int v_this_house_floors, .int v_this_house_riders, .int y1, .ref q_this_house_wants, .ref q_this_house_stands, .ref q_this_house_wantAt, .ref q_this_house_standAt]])) 0 0 := by
  refine kM.of (by decide) (Nat.le_of_ble_eq_true rfl) ?_
  intro p e s m args below meth c A ls hx hb hr ht hown hlocks hml hN hin hA hK hP hD hS hl
  replace hl : lv_has ls 2 [(0, .ref q_this), (1, .int p0)] := hl
  obtain ⟨H, hH⟩ : ∃ H : Heap, H = s.heap := ⟨_, rfl⟩
  obtain ⟨locs, hlc⟩ : ∃ L : List Loc, L = [] := ⟨_, rfl⟩
  replace hP : va_P D kCl [ob q_this 4 [.ref q_this_house, .int v_this_state, .ref q_this_row, .int v_this_size], ob q_this_house 2 [.int v_this_house_floors, .int v_this_house_riders, .int v_this_house_strangers, .ref q_this_house_wants, .ref q_this_house_stands, .ref q_this_house_wantAt, .ref q_this_house_standAt]] H := by rw [hH]; exact hP
  replace hS : va_S A s.heap H locs := by rw [hH, hlc]; exact hS
  replace hD : va_D A [ob q_this 4 [.ref q_this_house, .int v_this_state, .ref q_this_row, .int v_this_size], ob q_this_house 2 [.int v_this_house_floors, .int v_this_house_riders, .int v_this_house_strangers, .ref q_this_house_wants, .ref q_this_house_stands, .ref q_this_house_wantAt, .ref q_this_house_standAt]] := hD
  rw [show W p l e _ s m args below meth c s.heap [] 0 0 _ _ = W p l e _ s m args below meth c H locs 0 0 _ _ from by rw [hH, hlc]]
  unfold wp_X5_addStranger at hw
  refine lv_aload_n hx hb dX5_addStranger_0 rfl (lv_at hl 0 rfl) ?_
  refine lv_aload_n hx hb dX5_addStranger_1 rfl (lv_at hl 0 rfl) ?_
  refine va_get (D := D) (ci := 4) (v := .int v_this_state) (C := RX5) (T := TX5) (N := 4) hx hb ht inX5 hown hK hP 0 rfl rfl 1 (by decide) (ht _ mw_92) (fun _ h9 => h9) rfl dX5_addStranger_2 ?_
  refine lv_iconst (v := (1 : Int32)) hx hb dX5_addStranger_5 (by decide) ?_
  refine lv_iconst (v := (4 : Int32)) hx hb dX5_addStranger_6 (by decide) ?_
  refine lv_aload_n hx hb dX5_addStranger_7 rfl (lv_at hl 0 rfl) ?_
  refine va_get (D := D) (ci := 4) (v := .ref q_this_house) (C := RX5) (T := TX5) (N := 4) hx hb ht inX5 hown hK hP 0 rfl rfl 0 (by decide) (ht _ mw_89) (fun _ h9 => h9) rfl dX5_addStranger_8 ?_
  refine va_getN (D := D) (ci := 2) (v := .int v_this_house_strangers) (C := RX3) (T := TX3) (N := 7) hx hb ht inX3 hown hK hP 1 rfl rfl 2 (by decide) (va_Nw.use rfl (hN.1 _ mn_68)) (fun _ h9 => h9) rfl dX5_addStranger_11 ?_
  refine lv_iadd hx hb dX5_addStranger_14 ?_
  refine lv_ishl hx hb dX5_addStranger_15 ?_
  refine lv_iload_n hx hb dX5_addStranger_16 rfl (lv_at hl 1 rfl) ?_
  refine kCi0 (kRS hx hb hml hown ht hN hK hP hD (c_X8_withStrangers l D cI cJ cZ cR v_this_state ((1 : Int32) <<< (((4 : Int32) + v_this_house_strangers) &&& 31)) p0 _ hw) [] rfl rfl mw_343 mw_344 mw_12 mw_345 hdX8_withStrangers ⟨Nat.le_of_ble_eq_true rfl, Nat.le_of_ble_eq_true rfl⟩ ⟨rfl, rfl⟩ hl.1 rfl (Nat.le_of_ble_eq_true rfl) dX5_addStranger_17 ⟨Nat.zero_le _, Nat.zero_le _⟩) hP hD hS hA [] [0, 1] [0, 1] rfl rfl rfl rfl [ob q_this 4 [.ref q_this_house, .int v_this_state, .ref q_this_row, .int v_this_size], ob q_this_house 2 [.int v_this_house_floors, .int v_this_house_riders, .int v_this_house_strangers, .ref q_this_house_wants, .ref q_this_house_stands, .ref q_this_house_wantAt, .ref q_this_house_standAt]] rfl rfl (fun r_1 H locs hw hP hD hS => ?_)
  refine va_put (D := D) (ci := 4) (v := .int r_1) (ty := .int) (C := RX5) (T := TX5) (N := 4) hx hb ht inX5 tyX5 tyX5_ok nmX5 hown hK hP hD hS 0 rfl rfl 1 (by decide) (ht _ mw_92) (fun _ h9 => h9) rfl (by decide +kernel) rfl rfl (Nat.le_of_ble_eq_true rfl) dX5_addStranger_20 (fun H locs hP hD hS => ?_)
  replace hP : va_P D kCl [ob q_this 4 [.ref q_this_house, .int r_1, .ref q_this_row, .int v_this_size], ob q_this_house 2 [.int v_this_house_floors, .int v_this_house_riders, .int v_this_house_strangers, .ref q_this_house_wants, .ref q_this_house_stands, .ref q_this_house_wantAt, .ref q_this_house_standAt]] H := hP
  replace hD : va_D A [ob q_this 4 [.ref q_this_house, .int r_1, .ref q_this_row, .int v_this_size], ob q_this_house 2 [.int v_this_house_floors, .int v_this_house_riders, .int v_this_house_strangers, .ref q_this_house_wants, .ref q_this_house_stands, .ref q_this_house_wantAt, .ref q_this_house_standAt]] := hD
  refine lv_aload_n hx hb dX5_addStranger_23 rfl (lv_at hl 0 rfl) ?_
  refine va_get (D := D) (ci := 4) (v := .ref q_this_house) (C := RX5) (T := TX5) (N := 4) hx hb ht inX5 hown hK hP 0 rfl rfl 0 (by decide) (ht _ mw_89) (fun _ h9 => h9) rfl dX5_addStranger_24 ?_
  refine kCv1 (kRV hx hb hml hown ht hN hK hP hD (c_X3_addStranger l D cI cJ cZ cR q_this_house q_this_house_wants q_this_house_stands q_this_house_wantAt q_this_house_standAt v_this_house_floors v_this_house_riders v_this_house_strangers _ hw) [1] rfl rfl (T := TX3) (N := 7) rfl rfl mw_346 mw_347 mw_348 mw_5 mw_349 hdX3_addStranger ⟨Nat.le_of_ble_eq_true rfl, Nat.le_of_ble_eq_true rfl⟩ ⟨rfl, rfl⟩ hl.1 rfl (Nat.le_of_ble_eq_true rfl) dX5_addStranger_27 ⟨Nat.zero_le _, Nat.zero_le _⟩) hP hD hS hA [1] [0] [0, 1] rfl rfl rfl rfl (fun v_2 => [ob q_this 4 [.ref q_this_house, .int r_1, .ref q_this_row, .int v_this_size], ob q_this_house 2 [.int v_this_house_floors, .int v_this_house_riders, .int v_2, .ref q_this_house_wants, .ref q_this_house_stands, .ref q_this_house_wantAt, .ref q_this_house_standAt]]) (fun _ => rfl) rfl (fun v_2 H locs hw hP hD hS => ?_)
  exact W.vret hx hb hr (kEv2 hw hP hD hK hS) hS.2.2 dX5_addStranger_30
def wp_X4_readStranger (p2 : Int32) (v_this_place : Int32) (v_p1_state : Int32) (v_p0_size : Int32) (f_p0_bytes : Nat → Int32) (v_p1_house_floors : Int32) (v_p1_house_strangers : Int32) (P : Int32 → Int32 → Int32 → Int32 → Prop) : Prop :=
  (∀ x_1 : Int32, x_1 = (v_this_place + (1 : Int32)) → ((p2 = 0 → (wp_X5_addStranger (7 : Int32) v_p1_state v_p1_house_strangers (fun v_4 v_5 => P (1 : Int32) x_1 v_4 v_5))) ∧ (¬ p2 = 0 → (wp_X4_readFloor (-9 : Int32) x_1 v_p0_size f_p0_bytes v_p1_house_floors (fun r_7 v_6 => ((¬ r_7 = (-9 : Int32) → (wp_X5_addStranger r_7 v_p1_state v_p1_house_strangers (fun v_9 v_10 => P (1 : Int32) v_6 v_9 v_10))) ∧ (r_7 = (-9 : Int32) → P (0 : Int32) v_6 v_p1_state v_p1_house_strangers)))))))
theorem hdX4_readStranger : yX4_readStranger.cls ≠ "java/lang/invoke/MethodHandle" ∧ yX4_readStranger.cls ≠ "java/lang/invoke/VarHandle" ∧ (parseMethodDescriptor yX4_readStranger.desc).map (fun d => d.parameters.length) = some 3 := by decide +kernel
set_option maxHeartbeats 4000000 in
set_option maxRecDepth 100000 in
theorem c_X4_readStranger (l : Launch) (D : va_G) (cI cJ cZ cR : ClassId) (q_this q_p1 q_p1_house q_p1_row q_p0 q_p0_bytes q_p1_house_wants q_p1_house_stands q_p1_house_wantAt q_p1_house_standAt : Nat) (v_this_place : Int32) (v_p1_state : Int32) (v_p1_size : Int32) (v_p0_size : Int32) (f_p0_bytes : Nat → Int32) (v_p1_house_floors : Int32) (v_p1_house_riders : Int32) (v_p1_house_strangers : Int32) (p2 : Int32) (P : Int32 → Int32 → Int32 → Int32 → Prop) (hw : wp_X4_readStranger p2 v_this_place v_p1_state v_p0_size f_p0_bytes v_p1_house_floors v_p1_house_strangers P) : kM l yX4_readStranger cX4_readStranger 5 (some .boolean) { frames := 3, cells := 0, slots := 0, locals := 66 } D (kTy cI cJ cZ cR) [.ref q_this, .ref q_p0, .ref q_p1, .int p2] [ob q_this 3 [.int v_this_place], ob q_p1 4 [.ref q_p1_house, .int v_p1_state, .ref q_p1_row, .int v_p1_size], ob q_p0 7 [.ref q_p0_bytes, .int v_p0_size], aI cI q_p0_bytes 40 f_p0_bytes, ob q_p1_house 2 [.int v_p1_house_floors, .int v_p1_house_riders, .int v_p1_house_strangers, .ref q_p1_house_wants, .ref q_p1_house_stands, .ref q_p1_house_wantAt, .ref q_p1_house_standAt]] (kQi3 D (kTy cI cJ cZ cR) P (fun y0 y1 y2 => [ob q_this 3 [.int y0], ob q_p1 4 [.ref q_p1_house, .int y1, .ref q_p1_row, .int v_p1_size], ob q_p0 7 [.ref q_p0_bytes, .int v_p0_size], aI cI q_p0_bytes 40 f_p0_bytes, ob q_p1_house 2 [.int v_p1_house_floors, .int v_p1_house_riders, .int y2, .ref q_p1_house_wants, .ref q_p1_house_stands, .ref q_p1_house_wantAt, .ref q_p1_house_standAt]])) 0 0 := by
  refine kM.of (by decide) (Nat.le_of_ble_eq_true rfl) ?_
  intro p e s m args below meth c A ls hx hb hr ht hown hlocks hml hN hin hA hK hP hD hS hl
  replace hl : lv_has ls 5 [(0, .ref q_this), (1, .ref q_p0), (2, .ref q_p1), (3, .int p2)] := hl
  obtain ⟨H, hH⟩ : ∃ H : Heap, H = s.heap := ⟨_, rfl⟩
  obtain ⟨locs, hlc⟩ : ∃ L : List Loc, L = [] := ⟨_, rfl⟩
  replace hP : va_P D kCl [ob q_this 3 [.int v_this_place], ob q_p1 4 [.ref q_p1_house, .int v_p1_state, .ref q_p1_row, .int v_p1_size], ob q_p0 7 [.ref q_p0_bytes, .int v_p0_size], aI cI q_p0_bytes 40 f_p0_bytes, ob q_p1_house 2 [.int v_p1_house_floors, .int v_p1_house_riders, .int v_p1_house_strangers, .ref q_p1_house_wants, .ref q_p1_house_stands, .ref q_p1_house_wantAt, .ref q_p1_house_standAt]] H := by rw [hH]; exact hP
  replace hS : va_S A s.heap H locs := by rw [hH, hlc]; exact hS
  replace hD : va_D A [ob q_this 3 [.int v_this_place], ob q_p1 4 [.ref q_p1_house, .int v_p1_state, .ref q_p1_row, .int v_p1_size], ob q_p0 7 [.ref q_p0_bytes, .int v_p0_size], aI cI q_p0_bytes 40 f_p0_bytes, ob q_p1_house 2 [.int v_p1_house_floors, .int v_p1_house_riders, .int v_p1_house_strangers, .ref q_p1_house_wants, .ref q_p1_house_stands, .ref q_p1_house_wantAt, .ref q_p1_house_standAt]] := hD
  rw [show W p l e _ s m args below meth c s.heap [] 0 0 _ _ = W p l e _ s m args below meth c H locs 0 0 _ _ from by rw [hH, hlc]]
  unfold wp_X4_readStranger at hw
  refine lv_aload_n hx hb dX4_readStranger_0 rfl (lv_at hl 0 rfl) ?_
  refine lv_dup hx hb dX4_readStranger_1 rfl ?_
  refine va_get (D := D) (ci := 3) (v := .int v_this_place) (C := RX4) (T := TX4) (N := 1) hx hb ht inX4 hown hK hP 0 rfl rfl 0 (by decide) (ht _ mw_45) (fun _ h9 => h9) rfl dX4_readStranger_2 ?_
  refine lv_iconst (v := (1 : Int32)) hx hb dX4_readStranger_5 (by decide) ?_
  refine lv_iadd hx hb dX4_readStranger_6 ?_
  refine lv_topi (fun x_1 ex_1 => ?_)
  replace hw := hw x_1 ex_1
  refine va_put (D := D) (ci := 3) (v := .int x_1) (ty := .int) (C := RX4) (T := TX4) (N := 1) hx hb ht inX4 tyX4 tyX4_ok nmX4 hown hK hP hD hS 0 rfl rfl 0 (by decide) (ht _ mw_45) (fun _ h9 => h9) rfl (by decide +kernel) rfl rfl (Nat.le_of_ble_eq_true rfl) dX4_readStranger_7 (fun H locs hP hD hS => ?_)
  replace hP : va_P D kCl [ob q_this 3 [.int x_1], ob q_p1 4 [.ref q_p1_house, .int v_p1_state, .ref q_p1_row, .int v_p1_size], ob q_p0 7 [.ref q_p0_bytes, .int v_p0_size], aI cI q_p0_bytes 40 f_p0_bytes, ob q_p1_house 2 [.int v_p1_house_floors, .int v_p1_house_riders, .int v_p1_house_strangers, .ref q_p1_house_wants, .ref q_p1_house_stands, .ref q_p1_house_wantAt, .ref q_p1_house_standAt]] H := hP
  replace hD : va_D A [ob q_this 3 [.int x_1], ob q_p1 4 [.ref q_p1_house, .int v_p1_state, .ref q_p1_row, .int v_p1_size], ob q_p0 7 [.ref q_p0_bytes, .int v_p0_size], aI cI q_p0_bytes 40 f_p0_bytes, ob q_p1_house 2 [.int v_p1_house_floors, .int v_p1_house_riders, .int v_p1_house_strangers, .ref q_p1_house_wants, .ref q_p1_house_stands, .ref q_p1_house_wantAt, .ref q_p1_house_standAt]] := hD
  refine lv_iload_n hx hb dX4_readStranger_10 rfl (lv_at hl 3 rfl) ?_
  refine lv_if_eq (tgt := 28) hx hb dX4_readStranger_11 (by decide) (fun c_2 => ?_) (fun c_2 => ?_)
  · replace hw := hw.1 c_2
    refine lv_bipush (v := (7 : Int32)) hx hb dX4_readStranger_28 (by decide) ?_
    refine lv_istore (lv' := [(4, .int (7 : Int32)), (0, .ref q_this), (1, .ref q_p0), (2, .ref q_p1), (3, .int p2)]) hx hb dX4_readStranger_30 hl (by decide) rfl (fun ls hl => ?_)
    refine lv_iload hx hb dX4_readStranger_32 (lv_at hl 0 rfl) ?_
    refine lv_bipush (v := (-9 : Int32)) hx hb dX4_readStranger_34 (by decide) ?_
    refine lv_icmp_ne (tgt := 41) hx hb dX4_readStranger_36 (by decide) (fun _ => ?_) (fun c_3 => absurd c_3 (by decide))
    refine lv_aload_n hx hb dX4_readStranger_41 rfl (lv_at hl 3 rfl) ?_
    refine lv_iload hx hb dX4_readStranger_42 (lv_at hl 0 rfl) ?_
    refine kCv2 (kRV hx hb hml hown ht hN hK hP hD (c_X5_addStranger l D cI cJ cZ cR q_p1 q_p1_house q_p1_row q_p1_house_wants q_p1_house_stands q_p1_house_wantAt q_p1_house_standAt v_p1_state v_p1_size v_p1_house_floors v_p1_house_riders v_p1_house_strangers (7 : Int32) _ hw) [1, 4] rfl rfl (T := TX5) (N := 4) rfl rfl mw_339 mw_340 mw_341 mw_4 mw_342 hdX5_addStranger ⟨Nat.le_of_ble_eq_true rfl, Nat.le_of_ble_eq_true rfl⟩ ⟨rfl, rfl⟩ hl.1 rfl (Nat.le_of_ble_eq_true rfl) dX4_readStranger_44 ⟨Nat.zero_le _, Nat.zero_le _⟩) hP hD hS hA [1, 4] [0, 2, 3] [0, 3, 1, 2, 4] rfl rfl rfl rfl (fun v_4 v_5 => [ob q_this 3 [.int x_1], ob q_p1 4 [.ref q_p1_house, .int v_4, .ref q_p1_row, .int v_p1_size], ob q_p0 7 [.ref q_p0_bytes, .int v_p0_size], aI cI q_p0_bytes 40 f_p0_bytes, ob q_p1_house 2 [.int v_p1_house_floors, .int v_p1_house_riders, .int v_5, .ref q_p1_house_wants, .ref q_p1_house_stands, .ref q_p1_house_wantAt, .ref q_p1_house_standAt]]) (fun _ _ => rfl) rfl (fun v_4 v_5 H locs hw hP hD hS => ?_)
    refine lv_iconst (v := (1 : Int32)) hx hb dX4_readStranger_47 (by decide) ?_
    exact W.zret (v := (1 : Int32)) (ty := .boolean) hx hb hr rfl (kEi3 hw hP hD hK hS) hS.2.2 dX4_readStranger_48
  · replace hw := hw.2 c_2
    refine lv_aload_n hx hb dX4_readStranger_14 rfl (lv_at hl 0 rfl) ?_
    refine lv_aload_n hx hb dX4_readStranger_15 rfl (lv_at hl 1 rfl) ?_
    refine lv_aload_n hx hb dX4_readStranger_16 rfl (lv_at hl 2 rfl) ?_
    refine va_getN (D := D) (ci := 4) (v := .ref q_p1_house) (C := RX5) (T := TX5) (N := 4) hx hb ht inX5 hown hK hP 1 rfl rfl 0 (by decide) (va_Nw.use rfl (hN.1 _ mn_90)) (fun _ h9 => h9) rfl dX4_readStranger_17 ?_
    refine lv_bipush (v := (-9 : Int32)) hx hb dX4_readStranger_20 (by decide) ?_
    refine kCi1 (kRV hx hb hml hown ht hN hK hP hD (c_X4_readFloor l D cI cJ cZ cR q_this q_p0 q_p0_bytes q_p1_house q_p1_house_wants q_p1_house_stands q_p1_house_wantAt q_p1_house_standAt x_1 v_p0_size f_p0_bytes v_p1_house_floors v_p1_house_riders v_p1_house_strangers (-9 : Int32) _ hw) [0, 2, 3, 4] rfl rfl (T := TX4) (N := 1) rfl rfl mw_310 mw_312 ms_2 mw_3 mw_313 hdX4_readFloor ⟨Nat.le_of_ble_eq_true rfl, Nat.le_of_ble_eq_true rfl⟩ ⟨rfl, rfl⟩ hl.1 rfl (Nat.le_of_ble_eq_true rfl) dX4_readStranger_22 ⟨Nat.zero_le _, Nat.zero_le _⟩) hP hD hS hA [0, 2, 3, 4] [1] [1, 0, 2, 3, 4] rfl rfl rfl rfl (fun v_6 => [ob q_this 3 [.int v_6], ob q_p1 4 [.ref q_p1_house, .int v_p1_state, .ref q_p1_row, .int v_p1_size], ob q_p0 7 [.ref q_p0_bytes, .int v_p0_size], aI cI q_p0_bytes 40 f_p0_bytes, ob q_p1_house 2 [.int v_p1_house_floors, .int v_p1_house_riders, .int v_p1_house_strangers, .ref q_p1_house_wants, .ref q_p1_house_stands, .ref q_p1_house_wantAt, .ref q_p1_house_standAt]]) (fun _ => rfl) rfl (fun r_7 v_6 H locs hw hP hD hS => ?_)
    refine lv_goto (tgt := 30) hx hb dX4_readStranger_25 (by decide) ?_
    refine lv_istore (lv' := [(4, .int r_7), (0, .ref q_this), (1, .ref q_p0), (2, .ref q_p1), (3, .int p2)]) hx hb dX4_readStranger_30 hl (by decide) rfl (fun ls hl => ?_)
    refine lv_iload hx hb dX4_readStranger_32 (lv_at hl 0 rfl) ?_
    refine lv_bipush (v := (-9 : Int32)) hx hb dX4_readStranger_34 (by decide) ?_
    refine lv_icmp_ne (tgt := 41) hx hb dX4_readStranger_36 (by decide) (fun c_8 => ?_) (fun c_8 => ?_)
    · replace hw := hw.1 c_8
      refine lv_aload_n hx hb dX4_readStranger_41 rfl (lv_at hl 3 rfl) ?_
      refine lv_iload hx hb dX4_readStranger_42 (lv_at hl 0 rfl) ?_
      refine kCv2 (kRV hx hb hml hown ht hN hK hP hD (c_X5_addStranger l D cI cJ cZ cR q_p1 q_p1_house q_p1_row q_p1_house_wants q_p1_house_stands q_p1_house_wantAt q_p1_house_standAt v_p1_state v_p1_size v_p1_house_floors v_p1_house_riders v_p1_house_strangers r_7 _ hw) [1, 4] rfl rfl (T := TX5) (N := 4) rfl rfl mw_339 mw_340 mw_341 mw_4 mw_342 hdX5_addStranger ⟨Nat.le_of_ble_eq_true rfl, Nat.le_of_ble_eq_true rfl⟩ ⟨rfl, rfl⟩ hl.1 rfl (Nat.le_of_ble_eq_true rfl) dX4_readStranger_44 ⟨Nat.zero_le _, Nat.zero_le _⟩) hP hD hS hA [1, 4] [0, 2, 3] [0, 3, 1, 2, 4] rfl rfl rfl rfl (fun v_9 v_10 => [ob q_this 3 [.int v_6], ob q_p1 4 [.ref q_p1_house, .int v_9, .ref q_p1_row, .int v_p1_size], ob q_p0 7 [.ref q_p0_bytes, .int v_p0_size], aI cI q_p0_bytes 40 f_p0_bytes, ob q_p1_house 2 [.int v_p1_house_floors, .int v_p1_house_riders, .int v_10, .ref q_p1_house_wants, .ref q_p1_house_stands, .ref q_p1_house_wantAt, .ref q_p1_house_standAt]]) (fun _ _ => rfl) rfl (fun v_9 v_10 H locs hw hP hD hS => ?_)
      refine lv_iconst (v := (1 : Int32)) hx hb dX4_readStranger_47 (by decide) ?_
      exact W.zret (v := (1 : Int32)) (ty := .boolean) hx hb hr rfl (kEi3 hw hP hD hK hS) hS.2.2 dX4_readStranger_48
    · replace hw := hw.2 c_8
      refine lv_iconst (v := (0 : Int32)) hx hb dX4_readStranger_39 (by decide) ?_
      exact W.zret (v := (0 : Int32)) (ty := .boolean) hx hb hr rfl (kEi3 hw hP hD hK hS) hS.2.2 dX4_readStranger_40
def wp_X4_readPart (v_this_place : Int32) (v_p0_size : Int32) (f_p0_bytes : Nat → Int32) (v_p1_state : Int32) (v_p1_house_floors : Int32) (v_p1_house_riders : Int32) (v_p1_house_strangers : Int32) (f_p1_house_wants : Nat → Int32) (f_p1_house_wantAt : Nat → Int32) (f_p1_house_stands : Nat → Int32) (f_p1_house_standAt : Nat → Int32) (P : Int32 → Int32 → Int32 → Int32 → Int32 → (Nat → Int32) → (Nat → Int32) → (Nat → Int32) → (Nat → Int32) → Prop) : Prop :=
  (wp_X9_byteAt v_this_place v_p0_size f_p0_bytes (fun r_1 => ((r_1 = (65 : Int32) → (wp_X3_hasRoomForRider v_p1_house_riders (fun r_3 => ((r_3 = 0 → P (0 : Int32) v_this_place v_p1_state v_p1_house_riders v_p1_house_strangers f_p1_house_wants f_p1_house_wantAt f_p1_house_stands f_p1_house_standAt) ∧ (¬ r_3 = 0 → (wp_X4_readRider (1 : Int32) v_this_place v_p1_state v_p0_size f_p0_bytes v_p1_house_floors v_p1_house_riders f_p1_house_wants f_p1_house_wantAt f_p1_house_stands f_p1_house_standAt (fun r_12 v_5 v_6 v_7 f_8 f_9 f_10 f_11 => ((r_12 = 0 → P (0 : Int32) v_5 v_6 v_7 v_p1_house_strangers f_8 f_9 f_10 f_11) ∧ (¬ r_12 = 0 → P (1 : Int32) v_5 v_6 v_7 v_p1_house_strangers f_8 f_9 f_10 f_11))))))))) ∧ (r_1 = (73 : Int32) → (wp_X3_hasRoomForRider v_p1_house_riders (fun r_15 => ((r_15 = 0 → P (0 : Int32) v_this_place v_p1_state v_p1_house_riders v_p1_house_strangers f_p1_house_wants f_p1_house_wantAt f_p1_house_stands f_p1_house_standAt) ∧ (¬ r_15 = 0 → (wp_X4_readRider (0 : Int32) v_this_place v_p1_state v_p0_size f_p0_bytes v_p1_house_floors v_p1_house_riders f_p1_house_wants f_p1_house_wantAt f_p1_house_stands f_p1_house_standAt (fun r_24 v_17 v_18 v_19 f_20 f_21 f_22 f_23 => ((r_24 = 0 → P (0 : Int32) v_17 v_18 v_19 v_p1_house_strangers f_20 f_21 f_22 f_23) ∧ (¬ r_24 = 0 → P (1 : Int32) v_17 v_18 v_19 v_p1_house_strangers f_20 f_21 f_22 f_23))))))))) ∧ (r_1 = (83 : Int32) → (wp_X3_hasRoomForStranger v_p1_house_strangers (fun r_27 => ((r_27 = 0 → P (0 : Int32) v_this_place v_p1_state v_p1_house_riders v_p1_house_strangers f_p1_house_wants f_p1_house_wantAt f_p1_house_stands f_p1_house_standAt) ∧ (¬ r_27 = 0 → (wp_X4_readStranger (1 : Int32) v_this_place v_p1_state v_p0_size f_p0_bytes v_p1_house_floors v_p1_house_strangers (fun r_32 v_29 v_30 v_31 => ((r_32 = 0 → P (0 : Int32) v_29 v_30 v_p1_house_riders v_31 f_p1_house_wants f_p1_house_wantAt f_p1_house_stands f_p1_house_standAt) ∧ (¬ r_32 = 0 → P (1 : Int32) v_29 v_30 v_p1_house_riders v_31 f_p1_house_wants f_p1_house_wantAt f_p1_house_stands f_p1_house_standAt))))))))) ∧ (r_1 = (84 : Int32) → (wp_X3_hasRoomForStranger v_p1_house_strangers (fun r_35 => ((r_35 = 0 → P (0 : Int32) v_this_place v_p1_state v_p1_house_riders v_p1_house_strangers f_p1_house_wants f_p1_house_wantAt f_p1_house_stands f_p1_house_standAt) ∧ (¬ r_35 = 0 → (wp_X4_readStranger (0 : Int32) v_this_place v_p1_state v_p0_size f_p0_bytes v_p1_house_floors v_p1_house_strangers (fun r_40 v_37 v_38 v_39 => ((r_40 = 0 → P (0 : Int32) v_37 v_38 v_p1_house_riders v_39 f_p1_house_wants f_p1_house_wantAt f_p1_house_stands f_p1_house_standAt) ∧ (¬ r_40 = 0 → P (1 : Int32) v_37 v_38 v_p1_house_riders v_39 f_p1_house_wants f_p1_house_wantAt f_p1_house_stands f_p1_house_standAt))))))))) ∧ (¬ r_1 = (65 : Int32) → ¬ r_1 = (73 : Int32) → ¬ r_1 = (83 : Int32) → ¬ r_1 = (84 : Int32) → P (0 : Int32) v_this_place v_p1_state v_p1_house_riders v_p1_house_strangers f_p1_house_wants f_p1_house_wantAt f_p1_house_stands f_p1_house_standAt))))
theorem hdX4_readPart : yX4_readPart.cls ≠ "java/lang/invoke/MethodHandle" ∧ yX4_readPart.cls ≠ "java/lang/invoke/VarHandle" ∧ (parseMethodDescriptor yX4_readPart.desc).map (fun d => d.parameters.length) = some 2 := by decide +kernel
set_option maxHeartbeats 4000000 in
set_option maxRecDepth 100000 in
theorem c_X4_readPart (l : Launch) (D : va_G) (cI cJ cZ cR : ClassId) (q_this q_p0 q_p0_bytes q_p1 q_p1_house q_p1_row q_p1_house_wants q_p1_house_stands q_p1_house_wantAt q_p1_house_standAt : Nat) (v_this_place : Int32) (v_p0_size : Int32) (f_p0_bytes : Nat → Int32) (v_p1_state : Int32) (v_p1_size : Int32) (v_p1_house_floors : Int32) (v_p1_house_riders : Int32) (v_p1_house_strangers : Int32) (f_p1_house_wants : Nat → Int32) (f_p1_house_wantAt : Nat → Int32) (f_p1_house_stands : Nat → Int32) (f_p1_house_standAt : Nat → Int32) (P : Int32 → Int32 → Int32 → Int32 → Int32 → (Nat → Int32) → (Nat → Int32) → (Nat → Int32) → (Nat → Int32) → Prop) (hw : wp_X4_readPart v_this_place v_p0_size f_p0_bytes v_p1_state v_p1_house_floors v_p1_house_riders v_p1_house_strangers f_p1_house_wants f_p1_house_wantAt f_p1_house_stands f_p1_house_standAt P) : kM l yX4_readPart cX4_readPart 3 (some .boolean) { frames := 4, cells := 0, slots := 0, locals := 91 } D (kTy cI cJ cZ cR) [.ref q_this, .ref q_p0, .ref q_p1] [ob q_this 3 [.int v_this_place], ob q_p0 7 [.ref q_p0_bytes, .int v_p0_size], aI cI q_p0_bytes 40 f_p0_bytes, ob q_p1 4 [.ref q_p1_house, .int v_p1_state, .ref q_p1_row, .int v_p1_size], ob q_p1_house 2 [.int v_p1_house_floors, .int v_p1_house_riders, .int v_p1_house_strangers, .ref q_p1_house_wants, .ref q_p1_house_stands, .ref q_p1_house_wantAt, .ref q_p1_house_standAt], aI cI q_p1_house_wants 4 f_p1_house_wants, aI cI q_p1_house_wantAt 6 f_p1_house_wantAt, aI cI q_p1_house_stands 4 f_p1_house_stands, aI cI q_p1_house_standAt 6 f_p1_house_standAt] (kQi8 D (kTy cI cJ cZ cR) P (fun y0 y1 y2 y3 y4 y5 y6 y7 => [ob q_this 3 [.int y0], ob q_p0 7 [.ref q_p0_bytes, .int v_p0_size], aI cI q_p0_bytes 40 f_p0_bytes, ob q_p1 4 [.ref q_p1_house, .int y1, .ref q_p1_row, .int v_p1_size], ob q_p1_house 2 [.int v_p1_house_floors, .int y2, .int y3, .ref q_p1_house_wants, .ref q_p1_house_stands, .ref q_p1_house_wantAt, .ref q_p1_house_standAt], aI cI q_p1_house_wants 4 y4, aI cI q_p1_house_wantAt 6 y5, aI cI q_p1_house_stands 4 y6, aI cI q_p1_house_standAt 6 y7])) 0 0 := by
  refine kM.of (by decide) (Nat.le_of_ble_eq_true rfl) ?_
  intro p e s m args below meth c A ls hx hb hr ht hown hlocks hml hN hin hA hK hP hD hS hl
  replace hl : lv_has ls 3 [(0, .ref q_this), (1, .ref q_p0), (2, .ref q_p1)] := hl
  obtain ⟨H, hH⟩ : ∃ H : Heap, H = s.heap := ⟨_, rfl⟩
  obtain ⟨locs, hlc⟩ : ∃ L : List Loc, L = [] := ⟨_, rfl⟩
  replace hP : va_P D kCl [ob q_this 3 [.int v_this_place], ob q_p0 7 [.ref q_p0_bytes, .int v_p0_size], aI cI q_p0_bytes 40 f_p0_bytes, ob q_p1 4 [.ref q_p1_house, .int v_p1_state, .ref q_p1_row, .int v_p1_size], ob q_p1_house 2 [.int v_p1_house_floors, .int v_p1_house_riders, .int v_p1_house_strangers, .ref q_p1_house_wants, .ref q_p1_house_stands, .ref q_p1_house_wantAt, .ref q_p1_house_standAt], aI cI q_p1_house_wants 4 f_p1_house_wants, aI cI q_p1_house_wantAt 6 f_p1_house_wantAt, aI cI q_p1_house_stands 4 f_p1_house_stands, aI cI q_p1_house_standAt 6 f_p1_house_standAt] H := by rw [hH]; exact hP
  replace hS : va_S A s.heap H locs := by rw [hH, hlc]; exact hS
  replace hD : va_D A [ob q_this 3 [.int v_this_place], ob q_p0 7 [.ref q_p0_bytes, .int v_p0_size], aI cI q_p0_bytes 40 f_p0_bytes, ob q_p1 4 [.ref q_p1_house, .int v_p1_state, .ref q_p1_row, .int v_p1_size], ob q_p1_house 2 [.int v_p1_house_floors, .int v_p1_house_riders, .int v_p1_house_strangers, .ref q_p1_house_wants, .ref q_p1_house_stands, .ref q_p1_house_wantAt, .ref q_p1_house_standAt], aI cI q_p1_house_wants 4 f_p1_house_wants, aI cI q_p1_house_wantAt 6 f_p1_house_wantAt, aI cI q_p1_house_stands 4 f_p1_house_stands, aI cI q_p1_house_standAt 6 f_p1_house_standAt] := hD
  rw [show W p l e _ s m args below meth c s.heap [] 0 0 _ _ = W p l e _ s m args below meth c H locs 0 0 _ _ from by rw [hH, hlc]]
  unfold wp_X4_readPart at hw
  refine lv_aload_n hx hb dX4_readPart_0 rfl (lv_at hl 1 rfl) ?_
  refine lv_aload_n hx hb dX4_readPart_1 rfl (lv_at hl 0 rfl) ?_
  refine va_get (D := D) (ci := 3) (v := .int v_this_place) (C := RX4) (T := TX4) (N := 1) hx hb ht inX4 hown hK hP 0 rfl rfl 0 (by decide) (ht _ mw_45) (fun _ h9 => h9) rfl dX4_readPart_2 ?_
  refine kCi0 (kRV hx hb hml hown ht hN hK hP hD (c_X9_byteAt l D cI cJ cZ cR q_p0 q_p0_bytes v_p0_size f_p0_bytes v_this_place _ hw) [1, 2] rfl rfl (T := TX9) (N := 2) rfl rfl mw_281 mw_282 mw_283 mw_2 mw_284 hdX9_byteAt ⟨Nat.le_of_ble_eq_true rfl, Nat.le_of_ble_eq_true rfl⟩ ⟨rfl, rfl⟩ hl.1 rfl (Nat.le_of_ble_eq_true rfl) dX4_readPart_5 ⟨Nat.zero_le _, Nat.zero_le _⟩) hP hD hS hA [1, 2] [0, 3, 4, 5, 6, 7, 8] [0, 7, 8, 1, 2, 3, 4, 5, 6] rfl rfl rfl rfl [ob q_this 3 [.int v_this_place], ob q_p0 7 [.ref q_p0_bytes, .int v_p0_size], aI cI q_p0_bytes 40 f_p0_bytes, ob q_p1 4 [.ref q_p1_house, .int v_p1_state, .ref q_p1_row, .int v_p1_size], ob q_p1_house 2 [.int v_p1_house_floors, .int v_p1_house_riders, .int v_p1_house_strangers, .ref q_p1_house_wants, .ref q_p1_house_stands, .ref q_p1_house_wantAt, .ref q_p1_house_standAt], aI cI q_p1_house_wants 4 f_p1_house_wants, aI cI q_p1_house_wantAt 6 f_p1_house_wantAt, aI cI q_p1_house_stands 4 f_p1_house_stands, aI cI q_p1_house_standAt 6 f_p1_house_standAt] rfl rfl (fun r_1 H locs hw hP hD hS => ?_)
  by_cases c_2 : r_1 = (65 : Int32)
  · replace hw := hw.1 c_2
    refine lv_lookup (off := 70) (tgt := 78) hx hb dX4_readPart_8 (by decide) (by rw [c_2]; rfl) (by decide) ?_
    refine lv_aload_n hx hb dX4_readPart_78 rfl (lv_at hl 2 rfl) ?_
    refine va_getN (D := D) (ci := 4) (v := .ref q_p1_house) (C := RX5) (T := TX5) (N := 4) hx hb ht inX5 hown hK hP 3 rfl rfl 0 (by decide) (va_Nw.use rfl (hN.1 _ mn_90)) (fun _ h9 => h9) rfl dX4_readPart_79 ?_
    refine kCi0 (kRV hx hb hml hown ht hN hK hP hD (c_X3_hasRoomForRider l D cI cJ cZ cR q_p1_house q_p1_house_wants q_p1_house_stands q_p1_house_wantAt q_p1_house_standAt v_p1_house_floors v_p1_house_riders v_p1_house_strangers _ hw) [4] rfl rfl (T := TX3) (N := 7) rfl rfl mw_302 mw_303 mw_304 mw_5 mw_305 hdX3_hasRoomForRider ⟨Nat.le_of_ble_eq_true rfl, Nat.le_of_ble_eq_true rfl⟩ ⟨rfl, rfl⟩ hl.1 rfl (Nat.le_of_ble_eq_true rfl) dX4_readPart_82 ⟨Nat.zero_le _, Nat.zero_le _⟩) hP hD hS hA [4] [0, 1, 2, 3, 5, 6, 7, 8] [0, 1, 2, 3, 8, 4, 5, 6, 7] rfl rfl rfl rfl [ob q_this 3 [.int v_this_place], ob q_p0 7 [.ref q_p0_bytes, .int v_p0_size], aI cI q_p0_bytes 40 f_p0_bytes, ob q_p1 4 [.ref q_p1_house, .int v_p1_state, .ref q_p1_row, .int v_p1_size], ob q_p1_house 2 [.int v_p1_house_floors, .int v_p1_house_riders, .int v_p1_house_strangers, .ref q_p1_house_wants, .ref q_p1_house_stands, .ref q_p1_house_wantAt, .ref q_p1_house_standAt], aI cI q_p1_house_wants 4 f_p1_house_wants, aI cI q_p1_house_wantAt 6 f_p1_house_wantAt, aI cI q_p1_house_stands 4 f_p1_house_stands, aI cI q_p1_house_standAt 6 f_p1_house_standAt] rfl rfl (fun r_3 H locs hw hP hD hS => ?_)
    refine lv_if_eq (tgt := 102) hx hb dX4_readPart_85 (by decide) (fun c_4 => ?_) (fun c_4 => ?_)
    · replace hw := hw.1 c_4
      refine lv_iconst (v := (0 : Int32)) hx hb dX4_readPart_102 (by decide) ?_
      exact W.zret (v := (0 : Int32)) (ty := .boolean) hx hb hr rfl (kEi8 hw hP hD hK hS) hS.2.2 dX4_readPart_103
    · replace hw := hw.2 c_4
      refine lv_aload_n hx hb dX4_readPart_88 rfl (lv_at hl 0 rfl) ?_
      refine lv_aload_n hx hb dX4_readPart_89 rfl (lv_at hl 1 rfl) ?_
      refine lv_aload_n hx hb dX4_readPart_90 rfl (lv_at hl 2 rfl) ?_
      refine lv_iconst (v := (1 : Int32)) hx hb dX4_readPart_91 (by decide) ?_
      refine kCi7 (kRV hx hb hml hown ht hN hK hP hD (c_X4_readRider l D cI cJ cZ cR q_this q_p1 q_p1_house q_p1_row q_p0 q_p0_bytes q_p1_house_wants q_p1_house_stands q_p1_house_wantAt q_p1_house_standAt v_this_place v_p1_state v_p1_size v_p0_size f_p0_bytes v_p1_house_floors v_p1_house_riders v_p1_house_strangers f_p1_house_wants f_p1_house_wantAt f_p1_house_stands f_p1_house_standAt (1 : Int32) _ hw) [0, 3, 1, 2, 4, 5, 6, 7, 8] rfl rfl (T := TX4) (N := 1) rfl rfl mw_306 mw_308 ms_1 mw_3 mw_309 hdX4_readRider ⟨Nat.le_of_ble_eq_true rfl, Nat.le_of_ble_eq_true rfl⟩ ⟨rfl, rfl⟩ hl.1 rfl (Nat.le_of_ble_eq_true rfl) dX4_readPart_92 ⟨Nat.zero_le _, Nat.zero_le _⟩) hP hD hS hA [0, 3, 1, 2, 4, 5, 6, 7, 8] [] [0, 2, 3, 1, 4, 5, 6, 7, 8] rfl rfl rfl rfl (fun v_5 v_6 v_7 f_8 f_9 f_10 f_11 => [ob q_this 3 [.int v_5], ob q_p0 7 [.ref q_p0_bytes, .int v_p0_size], aI cI q_p0_bytes 40 f_p0_bytes, ob q_p1 4 [.ref q_p1_house, .int v_6, .ref q_p1_row, .int v_p1_size], ob q_p1_house 2 [.int v_p1_house_floors, .int v_7, .int v_p1_house_strangers, .ref q_p1_house_wants, .ref q_p1_house_stands, .ref q_p1_house_wantAt, .ref q_p1_house_standAt], aI cI q_p1_house_wants 4 f_8, aI cI q_p1_house_wantAt 6 f_9, aI cI q_p1_house_stands 4 f_10, aI cI q_p1_house_standAt 6 f_11]) (fun _ _ _ _ _ _ _ => rfl) rfl (fun r_12 v_5 v_6 v_7 f_8 f_9 f_10 f_11 H locs hw hP hD hS => ?_)
      refine lv_if_eq (tgt := 102) hx hb dX4_readPart_95 (by decide) (fun c_13 => ?_) (fun c_13 => ?_)
      · replace hw := hw.1 c_13
        refine lv_iconst (v := (0 : Int32)) hx hb dX4_readPart_102 (by decide) ?_
        exact W.zret (v := (0 : Int32)) (ty := .boolean) hx hb hr rfl (kEi8 hw hP hD hK hS) hS.2.2 dX4_readPart_103
      · replace hw := hw.2 c_13
        refine lv_iconst (v := (1 : Int32)) hx hb dX4_readPart_98 (by decide) ?_
        refine lv_goto (tgt := 103) hx hb dX4_readPart_99 (by decide) ?_
        exact W.zret (v := (1 : Int32)) (ty := .boolean) hx hb hr rfl (kEi8 hw hP hD hK hS) hS.2.2 dX4_readPart_103
  ·
    by_cases c_14 : r_1 = (73 : Int32)
    · replace hw := hw.2.1 c_14
      refine lv_lookup (off := 44) (tgt := 52) hx hb dX4_readPart_8 (by decide) (by rw [c_14]; rfl) (by decide) ?_
      refine lv_aload_n hx hb dX4_readPart_52 rfl (lv_at hl 2 rfl) ?_
      refine va_getN (D := D) (ci := 4) (v := .ref q_p1_house) (C := RX5) (T := TX5) (N := 4) hx hb ht inX5 hown hK hP 3 rfl rfl 0 (by decide) (va_Nw.use rfl (hN.1 _ mn_90)) (fun _ h9 => h9) rfl dX4_readPart_53 ?_
      refine kCi0 (kRV hx hb hml hown ht hN hK hP hD (c_X3_hasRoomForRider l D cI cJ cZ cR q_p1_house q_p1_house_wants q_p1_house_stands q_p1_house_wantAt q_p1_house_standAt v_p1_house_floors v_p1_house_riders v_p1_house_strangers _ hw) [4] rfl rfl (T := TX3) (N := 7) rfl rfl mw_302 mw_303 mw_304 mw_5 mw_305 hdX3_hasRoomForRider ⟨Nat.le_of_ble_eq_true rfl, Nat.le_of_ble_eq_true rfl⟩ ⟨rfl, rfl⟩ hl.1 rfl (Nat.le_of_ble_eq_true rfl) dX4_readPart_56 ⟨Nat.zero_le _, Nat.zero_le _⟩) hP hD hS hA [4] [0, 1, 2, 3, 5, 6, 7, 8] [0, 1, 2, 3, 8, 4, 5, 6, 7] rfl rfl rfl rfl [ob q_this 3 [.int v_this_place], ob q_p0 7 [.ref q_p0_bytes, .int v_p0_size], aI cI q_p0_bytes 40 f_p0_bytes, ob q_p1 4 [.ref q_p1_house, .int v_p1_state, .ref q_p1_row, .int v_p1_size], ob q_p1_house 2 [.int v_p1_house_floors, .int v_p1_house_riders, .int v_p1_house_strangers, .ref q_p1_house_wants, .ref q_p1_house_stands, .ref q_p1_house_wantAt, .ref q_p1_house_standAt], aI cI q_p1_house_wants 4 f_p1_house_wants, aI cI q_p1_house_wantAt 6 f_p1_house_wantAt, aI cI q_p1_house_stands 4 f_p1_house_stands, aI cI q_p1_house_standAt 6 f_p1_house_standAt] rfl rfl (fun r_15 H locs hw hP hD hS => ?_)
      refine lv_if_eq (tgt := 76) hx hb dX4_readPart_59 (by decide) (fun c_16 => ?_) (fun c_16 => ?_)
      · replace hw := hw.1 c_16
        refine lv_iconst (v := (0 : Int32)) hx hb dX4_readPart_76 (by decide) ?_
        exact W.zret (v := (0 : Int32)) (ty := .boolean) hx hb hr rfl (kEi8 hw hP hD hK hS) hS.2.2 dX4_readPart_77
      · replace hw := hw.2 c_16
        refine lv_aload_n hx hb dX4_readPart_62 rfl (lv_at hl 0 rfl) ?_
        refine lv_aload_n hx hb dX4_readPart_63 rfl (lv_at hl 1 rfl) ?_
        refine lv_aload_n hx hb dX4_readPart_64 rfl (lv_at hl 2 rfl) ?_
        refine lv_iconst (v := (0 : Int32)) hx hb dX4_readPart_65 (by decide) ?_
        refine kCi7 (kRV hx hb hml hown ht hN hK hP hD (c_X4_readRider l D cI cJ cZ cR q_this q_p1 q_p1_house q_p1_row q_p0 q_p0_bytes q_p1_house_wants q_p1_house_stands q_p1_house_wantAt q_p1_house_standAt v_this_place v_p1_state v_p1_size v_p0_size f_p0_bytes v_p1_house_floors v_p1_house_riders v_p1_house_strangers f_p1_house_wants f_p1_house_wantAt f_p1_house_stands f_p1_house_standAt (0 : Int32) _ hw) [0, 3, 1, 2, 4, 5, 6, 7, 8] rfl rfl (T := TX4) (N := 1) rfl rfl mw_306 mw_308 ms_1 mw_3 mw_309 hdX4_readRider ⟨Nat.le_of_ble_eq_true rfl, Nat.le_of_ble_eq_true rfl⟩ ⟨rfl, rfl⟩ hl.1 rfl (Nat.le_of_ble_eq_true rfl) dX4_readPart_66 ⟨Nat.zero_le _, Nat.zero_le _⟩) hP hD hS hA [0, 3, 1, 2, 4, 5, 6, 7, 8] [] [0, 2, 3, 1, 4, 5, 6, 7, 8] rfl rfl rfl rfl (fun v_17 v_18 v_19 f_20 f_21 f_22 f_23 => [ob q_this 3 [.int v_17], ob q_p0 7 [.ref q_p0_bytes, .int v_p0_size], aI cI q_p0_bytes 40 f_p0_bytes, ob q_p1 4 [.ref q_p1_house, .int v_18, .ref q_p1_row, .int v_p1_size], ob q_p1_house 2 [.int v_p1_house_floors, .int v_19, .int v_p1_house_strangers, .ref q_p1_house_wants, .ref q_p1_house_stands, .ref q_p1_house_wantAt, .ref q_p1_house_standAt], aI cI q_p1_house_wants 4 f_20, aI cI q_p1_house_wantAt 6 f_21, aI cI q_p1_house_stands 4 f_22, aI cI q_p1_house_standAt 6 f_23]) (fun _ _ _ _ _ _ _ => rfl) rfl (fun r_24 v_17 v_18 v_19 f_20 f_21 f_22 f_23 H locs hw hP hD hS => ?_)
        refine lv_if_eq (tgt := 76) hx hb dX4_readPart_69 (by decide) (fun c_25 => ?_) (fun c_25 => ?_)
        · replace hw := hw.1 c_25
          refine lv_iconst (v := (0 : Int32)) hx hb dX4_readPart_76 (by decide) ?_
          exact W.zret (v := (0 : Int32)) (ty := .boolean) hx hb hr rfl (kEi8 hw hP hD hK hS) hS.2.2 dX4_readPart_77
        · replace hw := hw.2 c_25
          refine lv_iconst (v := (1 : Int32)) hx hb dX4_readPart_72 (by decide) ?_
          refine lv_goto (tgt := 77) hx hb dX4_readPart_73 (by decide) ?_
          exact W.zret (v := (1 : Int32)) (ty := .boolean) hx hb hr rfl (kEi8 hw hP hD hK hS) hS.2.2 dX4_readPart_77
    ·
      by_cases c_26 : r_1 = (83 : Int32)
      · replace hw := hw.2.2.1 c_26
        refine lv_lookup (off := 96) (tgt := 104) hx hb dX4_readPart_8 (by decide) (by rw [c_26]; rfl) (by decide) ?_
        refine lv_aload_n hx hb dX4_readPart_104 rfl (lv_at hl 2 rfl) ?_
        refine va_getN (D := D) (ci := 4) (v := .ref q_p1_house) (C := RX5) (T := TX5) (N := 4) hx hb ht inX5 hown hK hP 3 rfl rfl 0 (by decide) (va_Nw.use rfl (hN.1 _ mn_90)) (fun _ h9 => h9) rfl dX4_readPart_105 ?_
        refine kCi0 (kRV hx hb hml hown ht hN hK hP hD (c_X3_hasRoomForStranger l D cI cJ cZ cR q_p1_house q_p1_house_wants q_p1_house_stands q_p1_house_wantAt q_p1_house_standAt v_p1_house_floors v_p1_house_riders v_p1_house_strangers _ hw) [4] rfl rfl (T := TX3) (N := 7) rfl rfl mw_331 mw_332 mw_333 mw_5 mw_334 hdX3_hasRoomForStranger ⟨Nat.le_of_ble_eq_true rfl, Nat.le_of_ble_eq_true rfl⟩ ⟨rfl, rfl⟩ hl.1 rfl (Nat.le_of_ble_eq_true rfl) dX4_readPart_108 ⟨Nat.zero_le _, Nat.zero_le _⟩) hP hD hS hA [4] [0, 1, 2, 3, 5, 6, 7, 8] [0, 1, 2, 3, 8, 4, 5, 6, 7] rfl rfl rfl rfl [ob q_this 3 [.int v_this_place], ob q_p0 7 [.ref q_p0_bytes, .int v_p0_size], aI cI q_p0_bytes 40 f_p0_bytes, ob q_p1 4 [.ref q_p1_house, .int v_p1_state, .ref q_p1_row, .int v_p1_size], ob q_p1_house 2 [.int v_p1_house_floors, .int v_p1_house_riders, .int v_p1_house_strangers, .ref q_p1_house_wants, .ref q_p1_house_stands, .ref q_p1_house_wantAt, .ref q_p1_house_standAt], aI cI q_p1_house_wants 4 f_p1_house_wants, aI cI q_p1_house_wantAt 6 f_p1_house_wantAt, aI cI q_p1_house_stands 4 f_p1_house_stands, aI cI q_p1_house_standAt 6 f_p1_house_standAt] rfl rfl (fun r_27 H locs hw hP hD hS => ?_)
        refine lv_if_eq (tgt := 128) hx hb dX4_readPart_111 (by decide) (fun c_28 => ?_) (fun c_28 => ?_)
        · replace hw := hw.1 c_28
          refine lv_iconst (v := (0 : Int32)) hx hb dX4_readPart_128 (by decide) ?_
          exact W.zret (v := (0 : Int32)) (ty := .boolean) hx hb hr rfl (kEi8 hw hP hD hK hS) hS.2.2 dX4_readPart_129
        · replace hw := hw.2 c_28
          refine lv_aload_n hx hb dX4_readPart_114 rfl (lv_at hl 0 rfl) ?_
          refine lv_aload_n hx hb dX4_readPart_115 rfl (lv_at hl 1 rfl) ?_
          refine lv_aload_n hx hb dX4_readPart_116 rfl (lv_at hl 2 rfl) ?_
          refine lv_iconst (v := (1 : Int32)) hx hb dX4_readPart_117 (by decide) ?_
          refine kCi3 (kRV hx hb hml hown ht hN hK hP hD (c_X4_readStranger l D cI cJ cZ cR q_this q_p1 q_p1_house q_p1_row q_p0 q_p0_bytes q_p1_house_wants q_p1_house_stands q_p1_house_wantAt q_p1_house_standAt v_this_place v_p1_state v_p1_size v_p0_size f_p0_bytes v_p1_house_floors v_p1_house_riders v_p1_house_strangers (1 : Int32) _ hw) [0, 3, 1, 2, 4] rfl rfl (T := TX4) (N := 1) rfl rfl mw_335 mw_337 ms_3 mw_3 mw_338 hdX4_readStranger ⟨Nat.le_of_ble_eq_true rfl, Nat.le_of_ble_eq_true rfl⟩ ⟨rfl, rfl⟩ hl.1 rfl (Nat.le_of_ble_eq_true rfl) dX4_readPart_118 ⟨Nat.zero_le _, Nat.zero_le _⟩) hP hD hS hA [0, 3, 1, 2, 4] [5, 6, 7, 8] [4, 6, 7, 5, 8, 0, 1, 2, 3] rfl rfl rfl rfl (fun v_29 v_30 v_31 => [ob q_this 3 [.int v_29], ob q_p0 7 [.ref q_p0_bytes, .int v_p0_size], aI cI q_p0_bytes 40 f_p0_bytes, ob q_p1 4 [.ref q_p1_house, .int v_30, .ref q_p1_row, .int v_p1_size], ob q_p1_house 2 [.int v_p1_house_floors, .int v_p1_house_riders, .int v_31, .ref q_p1_house_wants, .ref q_p1_house_stands, .ref q_p1_house_wantAt, .ref q_p1_house_standAt], aI cI q_p1_house_wants 4 f_p1_house_wants, aI cI q_p1_house_wantAt 6 f_p1_house_wantAt, aI cI q_p1_house_stands 4 f_p1_house_stands, aI cI q_p1_house_standAt 6 f_p1_house_standAt]) (fun _ _ _ => rfl) rfl (fun r_32 v_29 v_30 v_31 H locs hw hP hD hS => ?_)
          refine lv_if_eq (tgt := 128) hx hb dX4_readPart_121 (by decide) (fun c_33 => ?_) (fun c_33 => ?_)
          · replace hw := hw.1 c_33
            refine lv_iconst (v := (0 : Int32)) hx hb dX4_readPart_128 (by decide) ?_
            exact W.zret (v := (0 : Int32)) (ty := .boolean) hx hb hr rfl (kEi8 hw hP hD hK hS) hS.2.2 dX4_readPart_129
          · replace hw := hw.2 c_33
            refine lv_iconst (v := (1 : Int32)) hx hb dX4_readPart_124 (by decide) ?_
            refine lv_goto (tgt := 129) hx hb dX4_readPart_125 (by decide) ?_
            exact W.zret (v := (1 : Int32)) (ty := .boolean) hx hb hr rfl (kEi8 hw hP hD hK hS) hS.2.2 dX4_readPart_129
      ·
        by_cases c_34 : r_1 = (84 : Int32)
        · replace hw := hw.2.2.2.1 c_34
          refine lv_lookup (off := 122) (tgt := 130) hx hb dX4_readPart_8 (by decide) (by rw [c_34]; rfl) (by decide) ?_
          refine lv_aload_n hx hb dX4_readPart_130 rfl (lv_at hl 2 rfl) ?_
          refine va_getN (D := D) (ci := 4) (v := .ref q_p1_house) (C := RX5) (T := TX5) (N := 4) hx hb ht inX5 hown hK hP 3 rfl rfl 0 (by decide) (va_Nw.use rfl (hN.1 _ mn_90)) (fun _ h9 => h9) rfl dX4_readPart_131 ?_
          refine kCi0 (kRV hx hb hml hown ht hN hK hP hD (c_X3_hasRoomForStranger l D cI cJ cZ cR q_p1_house q_p1_house_wants q_p1_house_stands q_p1_house_wantAt q_p1_house_standAt v_p1_house_floors v_p1_house_riders v_p1_house_strangers _ hw) [4] rfl rfl (T := TX3) (N := 7) rfl rfl mw_331 mw_332 mw_333 mw_5 mw_334 hdX3_hasRoomForStranger ⟨Nat.le_of_ble_eq_true rfl, Nat.le_of_ble_eq_true rfl⟩ ⟨rfl, rfl⟩ hl.1 rfl (Nat.le_of_ble_eq_true rfl) dX4_readPart_134 ⟨Nat.zero_le _, Nat.zero_le _⟩) hP hD hS hA [4] [0, 1, 2, 3, 5, 6, 7, 8] [0, 1, 2, 3, 8, 4, 5, 6, 7] rfl rfl rfl rfl [ob q_this 3 [.int v_this_place], ob q_p0 7 [.ref q_p0_bytes, .int v_p0_size], aI cI q_p0_bytes 40 f_p0_bytes, ob q_p1 4 [.ref q_p1_house, .int v_p1_state, .ref q_p1_row, .int v_p1_size], ob q_p1_house 2 [.int v_p1_house_floors, .int v_p1_house_riders, .int v_p1_house_strangers, .ref q_p1_house_wants, .ref q_p1_house_stands, .ref q_p1_house_wantAt, .ref q_p1_house_standAt], aI cI q_p1_house_wants 4 f_p1_house_wants, aI cI q_p1_house_wantAt 6 f_p1_house_wantAt, aI cI q_p1_house_stands 4 f_p1_house_stands, aI cI q_p1_house_standAt 6 f_p1_house_standAt] rfl rfl (fun r_35 H locs hw hP hD hS => ?_)
          refine lv_if_eq (tgt := 154) hx hb dX4_readPart_137 (by decide) (fun c_36 => ?_) (fun c_36 => ?_)
          · replace hw := hw.1 c_36
            refine lv_iconst (v := (0 : Int32)) hx hb dX4_readPart_154 (by decide) ?_
            exact W.zret (v := (0 : Int32)) (ty := .boolean) hx hb hr rfl (kEi8 hw hP hD hK hS) hS.2.2 dX4_readPart_155
          · replace hw := hw.2 c_36
            refine lv_aload_n hx hb dX4_readPart_140 rfl (lv_at hl 0 rfl) ?_
            refine lv_aload_n hx hb dX4_readPart_141 rfl (lv_at hl 1 rfl) ?_
            refine lv_aload_n hx hb dX4_readPart_142 rfl (lv_at hl 2 rfl) ?_
            refine lv_iconst (v := (0 : Int32)) hx hb dX4_readPart_143 (by decide) ?_
            refine kCi3 (kRV hx hb hml hown ht hN hK hP hD (c_X4_readStranger l D cI cJ cZ cR q_this q_p1 q_p1_house q_p1_row q_p0 q_p0_bytes q_p1_house_wants q_p1_house_stands q_p1_house_wantAt q_p1_house_standAt v_this_place v_p1_state v_p1_size v_p0_size f_p0_bytes v_p1_house_floors v_p1_house_riders v_p1_house_strangers (0 : Int32) _ hw) [0, 3, 1, 2, 4] rfl rfl (T := TX4) (N := 1) rfl rfl mw_335 mw_337 ms_3 mw_3 mw_338 hdX4_readStranger ⟨Nat.le_of_ble_eq_true rfl, Nat.le_of_ble_eq_true rfl⟩ ⟨rfl, rfl⟩ hl.1 rfl (Nat.le_of_ble_eq_true rfl) dX4_readPart_144 ⟨Nat.zero_le _, Nat.zero_le _⟩) hP hD hS hA [0, 3, 1, 2, 4] [5, 6, 7, 8] [4, 6, 7, 5, 8, 0, 1, 2, 3] rfl rfl rfl rfl (fun v_37 v_38 v_39 => [ob q_this 3 [.int v_37], ob q_p0 7 [.ref q_p0_bytes, .int v_p0_size], aI cI q_p0_bytes 40 f_p0_bytes, ob q_p1 4 [.ref q_p1_house, .int v_38, .ref q_p1_row, .int v_p1_size], ob q_p1_house 2 [.int v_p1_house_floors, .int v_p1_house_riders, .int v_39, .ref q_p1_house_wants, .ref q_p1_house_stands, .ref q_p1_house_wantAt, .ref q_p1_house_standAt], aI cI q_p1_house_wants 4 f_p1_house_wants, aI cI q_p1_house_wantAt 6 f_p1_house_wantAt, aI cI q_p1_house_stands 4 f_p1_house_stands, aI cI q_p1_house_standAt 6 f_p1_house_standAt]) (fun _ _ _ => rfl) rfl (fun r_40 v_37 v_38 v_39 H locs hw hP hD hS => ?_)
            refine lv_if_eq (tgt := 154) hx hb dX4_readPart_147 (by decide) (fun c_41 => ?_) (fun c_41 => ?_)
            · replace hw := hw.1 c_41
              refine lv_iconst (v := (0 : Int32)) hx hb dX4_readPart_154 (by decide) ?_
              exact W.zret (v := (0 : Int32)) (ty := .boolean) hx hb hr rfl (kEi8 hw hP hD hK hS) hS.2.2 dX4_readPart_155
            · replace hw := hw.2 c_41
              refine lv_iconst (v := (1 : Int32)) hx hb dX4_readPart_150 (by decide) ?_
              refine lv_goto (tgt := 155) hx hb dX4_readPart_151 (by decide) ?_
              exact W.zret (v := (1 : Int32)) (ty := .boolean) hx hb hr rfl (kEi8 hw hP hD hK hS) hS.2.2 dX4_readPart_155
        ·
          replace hw := hw.2.2.2.2 c_2 c_14 c_26 c_34
          refine lv_lookup (off := 148) (tgt := 156) hx hb dX4_readPart_8 (by decide) ((lv_osw c_2 (by decide)).trans ((lv_osw c_14 (by decide)).trans ((lv_osw c_26 (by decide)).trans ((lv_osw c_34 (by decide)).trans (rfl))))) (by decide) ?_
          refine lv_iconst (v := (0 : Int32)) hx hb dX4_readPart_156 (by decide) ?_
          exact W.zret (v := (0 : Int32)) (ty := .boolean) hx hb hr rfl (kEi8 hw hP hD hK hS) hS.2.2 dX4_readPart_157
def wp_X4_read (v_p0_size : Int32) (f_p0_bytes : Nat → Int32) (v_p1_state : Int32) (v_p1_size : Int32) (v_p1_house_floors : Int32) (v_p1_house_riders : Int32) (v_p1_house_strangers : Int32) (f_p1_house_wantAt : Nat → Int32) (f_p1_house_standAt : Nat → Int32) (f_p1_house_wants : Nat → Int32) (f_p1_house_stands : Nat → Int32) (P : Int32 → Int32 → Int32 → Int32 → Int32 → Int32 → Int32 → (Nat → Int32) → (Nat → Int32) → (Nat → Int32) → (Nat → Int32) → Prop) : Prop :=
  (wp_X9_byteAt (0 : Int32) v_p0_size f_p0_bytes (fun r_1 => ((r_1 = (78 : Int32) → (∀ x_3 : Int32, x_3 = ((0 : Int32) + (1 : Int32)) → (wp_X9_byteAt x_3 v_p0_size f_p0_bytes (fun r_4 => (∀ x_5 : Int32, x_5 = (r_4 - (48 : Int32)) → ((x_5 < (2 : Int32) → P x_3 x_3 v_p1_state v_p1_size v_p1_house_floors v_p1_house_riders v_p1_house_strangers f_p1_house_wantAt f_p1_house_standAt f_p1_house_wants f_p1_house_stands) ∧ (¬ x_5 < (2 : Int32) → ((x_5 ≤ (6 : Int32) → (∀ x_8 : Int32, x_8 = (x_3 + (1 : Int32)) → (wp_X5_empty x_5 f_p1_house_wantAt f_p1_house_standAt (fun v_9 v_10 v_11 v_12 v_13 f_14 f_15 => (kl9 (fun (x_16 : Int32) (v_17 : Int32) (v_18 : Int32) (v_19 : Int32) (v_20 : Int32) (f_21 : Nat → Int32) (f_22 : Nat → Int32) (f_23 : Nat → Int32) (f_24 : Nat → Int32) K79 => (((40 : Int32) ≤ x_16 → P (-9 : Int32) v_17 v_18 v_10 v_11 v_19 v_20 f_21 f_22 f_23 f_24) ∧ (¬ (40 : Int32) ≤ x_16 → (wp_X9_size v_p0_size (fun r_26 => ((r_26 ≤ v_17 → P (-9 : Int32) v_17 v_18 v_10 v_11 v_19 v_20 f_21 f_22 f_23 f_24) ∧ (¬ r_26 ≤ v_17 → (wp_X4_readPart v_17 v_p0_size f_p0_bytes v_18 v_11 v_19 v_20 f_23 f_21 f_24 f_22 (fun r_36 v_28 v_29 v_30 v_31 f_32 f_33 f_34 f_35 => ((¬ r_36 = 0 → (∀ x_38 : Int32, x_38 = x_16 + (1 : Int32) → K79 x_38 v_28 v_29 v_30 v_31 f_33 f_35 f_32 f_34)) ∧ (r_36 = 0 → P v_28 v_28 v_29 v_10 v_11 v_30 v_31 f_33 f_35 f_32 f_34))))))))))) (0 : Int32) x_8 v_9 v_12 v_13 f_14 f_15 f_p1_house_wants f_p1_house_stands))))) ∧ (¬ x_5 ≤ (6 : Int32) → P x_3 x_3 v_p1_state v_p1_size v_p1_house_floors v_p1_house_riders v_p1_house_strangers f_p1_house_wantAt f_p1_house_standAt f_p1_house_wants f_p1_house_stands))))))))) ∧ (¬ r_1 = (78 : Int32) → P (0 : Int32) (0 : Int32) v_p1_state v_p1_size v_p1_house_floors v_p1_house_riders v_p1_house_strangers f_p1_house_wantAt f_p1_house_standAt f_p1_house_wants f_p1_house_stands))))
theorem hdX4_read : yX4_read.cls ≠ "java/lang/invoke/MethodHandle" ∧ yX4_read.cls ≠ "java/lang/invoke/VarHandle" ∧ (parseMethodDescriptor yX4_read.desc).map (fun d => d.parameters.length) = some 2 := by decide +kernel
set_option maxHeartbeats 4000000 in
set_option maxRecDepth 100000 in
theorem c_X4_read (l : Launch) (D : va_G) (cI cJ cZ cR : ClassId) (q_this q_p0 q_p0_bytes q_p1 q_p1_house q_p1_row q_p1_house_wants q_p1_house_stands q_p1_house_wantAt q_p1_house_standAt : Nat) (v_this_place : Int32) (v_p0_size : Int32) (f_p0_bytes : Nat → Int32) (v_p1_state : Int32) (v_p1_size : Int32) (v_p1_house_floors : Int32) (v_p1_house_riders : Int32) (v_p1_house_strangers : Int32) (f_p1_house_wantAt : Nat → Int32) (f_p1_house_standAt : Nat → Int32) (f_p1_house_wants : Nat → Int32) (f_p1_house_stands : Nat → Int32) (P : Int32 → Int32 → Int32 → Int32 → Int32 → Int32 → Int32 → (Nat → Int32) → (Nat → Int32) → (Nat → Int32) → (Nat → Int32) → Prop) (hw : wp_X4_read v_p0_size f_p0_bytes v_p1_state v_p1_size v_p1_house_floors v_p1_house_riders v_p1_house_strangers f_p1_house_wantAt f_p1_house_standAt f_p1_house_wants f_p1_house_stands P) : kM l yX4_read cX4_read 5 (some .int) { frames := 5, cells := 0, slots := 0, locals := 113 } D (kTy cI cJ cZ cR) [.ref q_this, .ref q_p0, .ref q_p1] [ob q_this 3 [.int v_this_place], ob q_p0 7 [.ref q_p0_bytes, .int v_p0_size], aI cI q_p0_bytes 40 f_p0_bytes, ob q_p1 4 [.ref q_p1_house, .int v_p1_state, .ref q_p1_row, .int v_p1_size], ob q_p1_house 2 [.int v_p1_house_floors, .int v_p1_house_riders, .int v_p1_house_strangers, .ref q_p1_house_wants, .ref q_p1_house_stands, .ref q_p1_house_wantAt, .ref q_p1_house_standAt], aI cI q_p1_house_wantAt 6 f_p1_house_wantAt, aI cI q_p1_house_standAt 6 f_p1_house_standAt, aI cI q_p1_house_wants 4 f_p1_house_wants, aI cI q_p1_house_stands 4 f_p1_house_stands] (kQi10 D (kTy cI cJ cZ cR) P (fun y0 y1 y2 y3 y4 y5 y6 y7 y8 y9 => [ob q_this 3 [.int y0], ob q_p0 7 [.ref q_p0_bytes, .int v_p0_size], aI cI q_p0_bytes 40 f_p0_bytes, ob q_p1 4 [.ref q_p1_house, .int y1, .ref q_p1_row, .int y2], ob q_p1_house 2 [.int y3, .int y4, .int y5, .ref q_p1_house_wants, .ref q_p1_house_stands, .ref q_p1_house_wantAt, .ref q_p1_house_standAt], aI cI q_p1_house_wantAt 6 y6, aI cI q_p1_house_standAt 6 y7, aI cI q_p1_house_wants 4 y8, aI cI q_p1_house_stands 4 y9])) 0 0 := by
  refine kM.of (by decide) (Nat.le_of_ble_eq_true rfl) ?_
  intro p e s m args below meth c A ls hx hb hr ht hown hlocks hml hN hin hA hK hP hD hS hl
  replace hl : lv_has ls 5 [(0, .ref q_this), (1, .ref q_p0), (2, .ref q_p1)] := hl
  obtain ⟨H, hH⟩ : ∃ H : Heap, H = s.heap := ⟨_, rfl⟩
  obtain ⟨locs, hlc⟩ : ∃ L : List Loc, L = [] := ⟨_, rfl⟩
  replace hP : va_P D kCl [ob q_this 3 [.int v_this_place], ob q_p0 7 [.ref q_p0_bytes, .int v_p0_size], aI cI q_p0_bytes 40 f_p0_bytes, ob q_p1 4 [.ref q_p1_house, .int v_p1_state, .ref q_p1_row, .int v_p1_size], ob q_p1_house 2 [.int v_p1_house_floors, .int v_p1_house_riders, .int v_p1_house_strangers, .ref q_p1_house_wants, .ref q_p1_house_stands, .ref q_p1_house_wantAt, .ref q_p1_house_standAt], aI cI q_p1_house_wantAt 6 f_p1_house_wantAt, aI cI q_p1_house_standAt 6 f_p1_house_standAt, aI cI q_p1_house_wants 4 f_p1_house_wants, aI cI q_p1_house_stands 4 f_p1_house_stands] H := by rw [hH]; exact hP
  replace hS : va_S A s.heap H locs := by rw [hH, hlc]; exact hS
  replace hD : va_D A [ob q_this 3 [.int v_this_place], ob q_p0 7 [.ref q_p0_bytes, .int v_p0_size], aI cI q_p0_bytes 40 f_p0_bytes, ob q_p1 4 [.ref q_p1_house, .int v_p1_state, .ref q_p1_row, .int v_p1_size], ob q_p1_house 2 [.int v_p1_house_floors, .int v_p1_house_riders, .int v_p1_house_strangers, .ref q_p1_house_wants, .ref q_p1_house_stands, .ref q_p1_house_wantAt, .ref q_p1_house_standAt], aI cI q_p1_house_wantAt 6 f_p1_house_wantAt, aI cI q_p1_house_standAt 6 f_p1_house_standAt, aI cI q_p1_house_wants 4 f_p1_house_wants, aI cI q_p1_house_stands 4 f_p1_house_stands] := hD
  rw [show W p l e _ s m args below meth c s.heap [] 0 0 _ _ = W p l e _ s m args below meth c H locs 0 0 _ _ from by rw [hH, hlc]]
  unfold wp_X4_read at hw
  refine lv_aload_n hx hb dX4_read_0 rfl (lv_at hl 0 rfl) ?_
  refine lv_iconst (v := (0 : Int32)) hx hb dX4_read_1 (by decide) ?_
  refine va_put (D := D) (ci := 3) (v := .int (0 : Int32)) (ty := .int) (C := RX4) (T := TX4) (N := 1) hx hb ht inX4 tyX4 tyX4_ok nmX4 hown hK hP hD hS 0 rfl rfl 0 (by decide) (ht _ mw_45) (fun _ h9 => h9) rfl (by decide +kernel) rfl rfl (Nat.le_of_ble_eq_true rfl) dX4_read_2 (fun H locs hP hD hS => ?_)
  replace hP : va_P D kCl [ob q_this 3 [.int (0 : Int32)], ob q_p0 7 [.ref q_p0_bytes, .int v_p0_size], aI cI q_p0_bytes 40 f_p0_bytes, ob q_p1 4 [.ref q_p1_house, .int v_p1_state, .ref q_p1_row, .int v_p1_size], ob q_p1_house 2 [.int v_p1_house_floors, .int v_p1_house_riders, .int v_p1_house_strangers, .ref q_p1_house_wants, .ref q_p1_house_stands, .ref q_p1_house_wantAt, .ref q_p1_house_standAt], aI cI q_p1_house_wantAt 6 f_p1_house_wantAt, aI cI q_p1_house_standAt 6 f_p1_house_standAt, aI cI q_p1_house_wants 4 f_p1_house_wants, aI cI q_p1_house_stands 4 f_p1_house_stands] H := hP
  replace hD : va_D A [ob q_this 3 [.int (0 : Int32)], ob q_p0 7 [.ref q_p0_bytes, .int v_p0_size], aI cI q_p0_bytes 40 f_p0_bytes, ob q_p1 4 [.ref q_p1_house, .int v_p1_state, .ref q_p1_row, .int v_p1_size], ob q_p1_house 2 [.int v_p1_house_floors, .int v_p1_house_riders, .int v_p1_house_strangers, .ref q_p1_house_wants, .ref q_p1_house_stands, .ref q_p1_house_wantAt, .ref q_p1_house_standAt], aI cI q_p1_house_wantAt 6 f_p1_house_wantAt, aI cI q_p1_house_standAt 6 f_p1_house_standAt, aI cI q_p1_house_wants 4 f_p1_house_wants, aI cI q_p1_house_stands 4 f_p1_house_stands] := hD
  refine lv_aload_n hx hb dX4_read_5 rfl (lv_at hl 1 rfl) ?_
  refine lv_aload_n hx hb dX4_read_6 rfl (lv_at hl 0 rfl) ?_
  refine va_get (D := D) (ci := 3) (v := .int (0 : Int32)) (C := RX4) (T := TX4) (N := 1) hx hb ht inX4 hown hK hP 0 rfl rfl 0 (by decide) (ht _ mw_45) (fun _ h9 => h9) rfl dX4_read_7 ?_
  refine kCi0 (kRV hx hb hml hown ht hN hK hP hD (c_X9_byteAt l D cI cJ cZ cR q_p0 q_p0_bytes v_p0_size f_p0_bytes (0 : Int32) _ hw) [1, 2] rfl rfl (T := TX9) (N := 2) rfl rfl mw_281 mw_282 mw_283 mw_2 mw_284 hdX9_byteAt ⟨Nat.le_of_ble_eq_true rfl, Nat.le_of_ble_eq_true rfl⟩ ⟨rfl, rfl⟩ hl.1 rfl (Nat.le_of_ble_eq_true rfl) dX4_read_10 ⟨Nat.zero_le _, Nat.zero_le _⟩) hP hD hS hA [1, 2] [0, 3, 4, 5, 6, 7, 8] [0, 7, 8, 1, 2, 3, 4, 5, 6] rfl rfl rfl rfl [ob q_this 3 [.int (0 : Int32)], ob q_p0 7 [.ref q_p0_bytes, .int v_p0_size], aI cI q_p0_bytes 40 f_p0_bytes, ob q_p1 4 [.ref q_p1_house, .int v_p1_state, .ref q_p1_row, .int v_p1_size], ob q_p1_house 2 [.int v_p1_house_floors, .int v_p1_house_riders, .int v_p1_house_strangers, .ref q_p1_house_wants, .ref q_p1_house_stands, .ref q_p1_house_wantAt, .ref q_p1_house_standAt], aI cI q_p1_house_wantAt 6 f_p1_house_wantAt, aI cI q_p1_house_standAt 6 f_p1_house_standAt, aI cI q_p1_house_wants 4 f_p1_house_wants, aI cI q_p1_house_stands 4 f_p1_house_stands] rfl rfl (fun r_1 H locs hw hP hD hS => ?_)
  refine lv_bipush (v := (78 : Int32)) hx hb dX4_read_13 (by decide) ?_
  refine lv_icmp_eq (tgt := 23) hx hb dX4_read_15 (by decide) (fun c_2 => ?_) (fun c_2 => ?_)
  · replace hw := hw.1 c_2
    refine lv_aload_n hx hb dX4_read_23 rfl (lv_at hl 0 rfl) ?_
    refine lv_dup hx hb dX4_read_24 rfl ?_
    refine va_get (D := D) (ci := 3) (v := .int (0 : Int32)) (C := RX4) (T := TX4) (N := 1) hx hb ht inX4 hown hK hP 0 rfl rfl 0 (by decide) (ht _ mw_45) (fun _ h9 => h9) rfl dX4_read_25 ?_
    refine lv_iconst (v := (1 : Int32)) hx hb dX4_read_28 (by decide) ?_
    refine lv_iadd hx hb dX4_read_29 ?_
    refine lv_topi (fun x_3 ex_3 => ?_)
    replace hw := hw x_3 ex_3
    refine va_put (D := D) (ci := 3) (v := .int x_3) (ty := .int) (C := RX4) (T := TX4) (N := 1) hx hb ht inX4 tyX4 tyX4_ok nmX4 hown hK hP hD hS 0 rfl rfl 0 (by decide) (ht _ mw_45) (fun _ h9 => h9) rfl (by decide +kernel) rfl rfl (Nat.le_of_ble_eq_true rfl) dX4_read_30 (fun H locs hP hD hS => ?_)
    replace hP : va_P D kCl [ob q_this 3 [.int x_3], ob q_p0 7 [.ref q_p0_bytes, .int v_p0_size], aI cI q_p0_bytes 40 f_p0_bytes, ob q_p1 4 [.ref q_p1_house, .int v_p1_state, .ref q_p1_row, .int v_p1_size], ob q_p1_house 2 [.int v_p1_house_floors, .int v_p1_house_riders, .int v_p1_house_strangers, .ref q_p1_house_wants, .ref q_p1_house_stands, .ref q_p1_house_wantAt, .ref q_p1_house_standAt], aI cI q_p1_house_wantAt 6 f_p1_house_wantAt, aI cI q_p1_house_standAt 6 f_p1_house_standAt, aI cI q_p1_house_wants 4 f_p1_house_wants, aI cI q_p1_house_stands 4 f_p1_house_stands] H := hP
    replace hD : va_D A [ob q_this 3 [.int x_3], ob q_p0 7 [.ref q_p0_bytes, .int v_p0_size], aI cI q_p0_bytes 40 f_p0_bytes, ob q_p1 4 [.ref q_p1_house, .int v_p1_state, .ref q_p1_row, .int v_p1_size], ob q_p1_house 2 [.int v_p1_house_floors, .int v_p1_house_riders, .int v_p1_house_strangers, .ref q_p1_house_wants, .ref q_p1_house_stands, .ref q_p1_house_wantAt, .ref q_p1_house_standAt], aI cI q_p1_house_wantAt 6 f_p1_house_wantAt, aI cI q_p1_house_standAt 6 f_p1_house_standAt, aI cI q_p1_house_wants 4 f_p1_house_wants, aI cI q_p1_house_stands 4 f_p1_house_stands] := hD
    refine lv_aload_n hx hb dX4_read_33 rfl (lv_at hl 1 rfl) ?_
    refine lv_aload_n hx hb dX4_read_34 rfl (lv_at hl 0 rfl) ?_
    refine va_get (D := D) (ci := 3) (v := .int x_3) (C := RX4) (T := TX4) (N := 1) hx hb ht inX4 hown hK hP 0 rfl rfl 0 (by decide) (ht _ mw_45) (fun _ h9 => h9) rfl dX4_read_35 ?_
    refine kCi0 (kRV hx hb hml hown ht hN hK hP hD (c_X9_byteAt l D cI cJ cZ cR q_p0 q_p0_bytes v_p0_size f_p0_bytes x_3 _ hw) [1, 2] rfl rfl (T := TX9) (N := 2) rfl rfl mw_281 mw_282 mw_283 mw_2 mw_284 hdX9_byteAt ⟨Nat.le_of_ble_eq_true rfl, Nat.le_of_ble_eq_true rfl⟩ ⟨rfl, rfl⟩ hl.1 rfl (Nat.le_of_ble_eq_true rfl) dX4_read_38 ⟨Nat.zero_le _, Nat.zero_le _⟩) hP hD hS hA [1, 2] [0, 3, 4, 5, 6, 7, 8] [0, 7, 8, 1, 2, 3, 4, 5, 6] rfl rfl rfl rfl [ob q_this 3 [.int x_3], ob q_p0 7 [.ref q_p0_bytes, .int v_p0_size], aI cI q_p0_bytes 40 f_p0_bytes, ob q_p1 4 [.ref q_p1_house, .int v_p1_state, .ref q_p1_row, .int v_p1_size], ob q_p1_house 2 [.int v_p1_house_floors, .int v_p1_house_riders, .int v_p1_house_strangers, .ref q_p1_house_wants, .ref q_p1_house_stands, .ref q_p1_house_wantAt, .ref q_p1_house_standAt], aI cI q_p1_house_wantAt 6 f_p1_house_wantAt, aI cI q_p1_house_standAt 6 f_p1_house_standAt, aI cI q_p1_house_wants 4 f_p1_house_wants, aI cI q_p1_house_stands 4 f_p1_house_stands] rfl rfl (fun r_4 H locs hw hP hD hS => ?_)
    refine lv_bipush (v := (48 : Int32)) hx hb dX4_read_41 (by decide) ?_
    refine lv_isub hx hb dX4_read_43 ?_
    refine lv_topi (fun x_5 ex_5 => ?_)
    replace hw := hw x_5 ex_5
    refine lv_istore_n (lv' := [(3, .int x_5), (0, .ref q_this), (1, .ref q_p0), (2, .ref q_p1)]) hx hb dX4_read_44 rfl hl (by decide) rfl (fun ls hl => ?_)
    refine lv_iload_n hx hb dX4_read_45 rfl (lv_at hl 0 rfl) ?_
    refine lv_iconst (v := (2 : Int32)) hx hb dX4_read_46 (by decide) ?_
    refine lv_icmp_lt (tgt := 56) hx hb dX4_read_47 (by decide) (fun c_6 => ?_) (fun c_6 => ?_)
    · replace hw := hw.1 c_6
      refine lv_aload_n hx hb dX4_read_56 rfl (lv_at hl 1 rfl) ?_
      refine va_get (D := D) (ci := 3) (v := .int x_3) (C := RX4) (T := TX4) (N := 1) hx hb ht inX4 hown hK hP 0 rfl rfl 0 (by decide) (ht _ mw_45) (fun _ h9 => h9) rfl dX4_read_57 ?_
      exact W.iret (v := x_3) hx hb hr (kEi10 hw hP hD hK hS) hS.2.2 dX4_read_60
    · replace hw := hw.2 c_6
      refine lv_iload_n hx hb dX4_read_50 rfl (lv_at hl 0 rfl) ?_
      refine lv_bipush (v := (6 : Int32)) hx hb dX4_read_51 (by decide) ?_
      refine lv_icmp_le (tgt := 61) hx hb dX4_read_53 (by decide) (fun c_7 => ?_) (fun c_7 => ?_)
      · replace hw := hw.1 c_7
        refine lv_aload_n hx hb dX4_read_61 rfl (lv_at hl 1 rfl) ?_
        refine lv_dup hx hb dX4_read_62 rfl ?_
        refine va_get (D := D) (ci := 3) (v := .int x_3) (C := RX4) (T := TX4) (N := 1) hx hb ht inX4 hown hK hP 0 rfl rfl 0 (by decide) (ht _ mw_45) (fun _ h9 => h9) rfl dX4_read_63 ?_
        refine lv_iconst (v := (1 : Int32)) hx hb dX4_read_66 (by decide) ?_
        refine lv_iadd hx hb dX4_read_67 ?_
        refine lv_topi (fun x_8 ex_8 => ?_)
        replace hw := hw x_8 ex_8
        refine va_put (D := D) (ci := 3) (v := .int x_8) (ty := .int) (C := RX4) (T := TX4) (N := 1) hx hb ht inX4 tyX4 tyX4_ok nmX4 hown hK hP hD hS 0 rfl rfl 0 (by decide) (ht _ mw_45) (fun _ h9 => h9) rfl (by decide +kernel) rfl rfl (Nat.le_of_ble_eq_true rfl) dX4_read_68 (fun H locs hP hD hS => ?_)
        replace hP : va_P D kCl [ob q_this 3 [.int x_8], ob q_p0 7 [.ref q_p0_bytes, .int v_p0_size], aI cI q_p0_bytes 40 f_p0_bytes, ob q_p1 4 [.ref q_p1_house, .int v_p1_state, .ref q_p1_row, .int v_p1_size], ob q_p1_house 2 [.int v_p1_house_floors, .int v_p1_house_riders, .int v_p1_house_strangers, .ref q_p1_house_wants, .ref q_p1_house_stands, .ref q_p1_house_wantAt, .ref q_p1_house_standAt], aI cI q_p1_house_wantAt 6 f_p1_house_wantAt, aI cI q_p1_house_standAt 6 f_p1_house_standAt, aI cI q_p1_house_wants 4 f_p1_house_wants, aI cI q_p1_house_stands 4 f_p1_house_stands] H := hP
        replace hD : va_D A [ob q_this 3 [.int x_8], ob q_p0 7 [.ref q_p0_bytes, .int v_p0_size], aI cI q_p0_bytes 40 f_p0_bytes, ob q_p1 4 [.ref q_p1_house, .int v_p1_state, .ref q_p1_row, .int v_p1_size], ob q_p1_house 2 [.int v_p1_house_floors, .int v_p1_house_riders, .int v_p1_house_strangers, .ref q_p1_house_wants, .ref q_p1_house_stands, .ref q_p1_house_wantAt, .ref q_p1_house_standAt], aI cI q_p1_house_wantAt 6 f_p1_house_wantAt, aI cI q_p1_house_standAt 6 f_p1_house_standAt, aI cI q_p1_house_wants 4 f_p1_house_wants, aI cI q_p1_house_stands 4 f_p1_house_stands] := hD
        refine lv_aload_n hx hb dX4_read_71 rfl (lv_at hl 3 rfl) ?_
        refine lv_iload_n hx hb dX4_read_72 rfl (lv_at hl 0 rfl) ?_
        refine kCv7 (kRV hx hb hml hown ht hN hK hP hD (c_X5_empty l D cI cJ cZ cR q_p1 q_p1_house q_p1_row q_p1_house_wants q_p1_house_stands q_p1_house_wantAt q_p1_house_standAt v_p1_state v_p1_size v_p1_house_floors v_p1_house_riders v_p1_house_strangers f_p1_house_wantAt f_p1_house_standAt x_5 _ hw) [3, 4, 5, 6] rfl rfl (T := TX5) (N := 4) rfl rfl mw_288 mw_289 mw_290 mw_4 mw_291 hdX5_empty ⟨Nat.le_of_ble_eq_true rfl, Nat.le_of_ble_eq_true rfl⟩ ⟨rfl, rfl⟩ hl.1 rfl (Nat.le_of_ble_eq_true rfl) dX4_read_73 ⟨Nat.zero_le _, Nat.zero_le _⟩) hP hD hS hA [3, 4, 5, 6] [0, 1, 2, 7, 8] [0, 1, 2, 5, 6, 7, 8, 3, 4] rfl rfl rfl rfl (fun v_9 v_10 v_11 v_12 v_13 f_14 f_15 => [ob q_this 3 [.int x_8], ob q_p0 7 [.ref q_p0_bytes, .int v_p0_size], aI cI q_p0_bytes 40 f_p0_bytes, ob q_p1 4 [.ref q_p1_house, .int v_9, .ref q_p1_row, .int v_10], ob q_p1_house 2 [.int v_11, .int v_12, .int v_13, .ref q_p1_house_wants, .ref q_p1_house_stands, .ref q_p1_house_wantAt, .ref q_p1_house_standAt], aI cI q_p1_house_wantAt 6 f_14, aI cI q_p1_house_standAt 6 f_15, aI cI q_p1_house_wants 4 f_p1_house_wants, aI cI q_p1_house_stands 4 f_p1_house_stands]) (fun _ _ _ _ _ _ _ => rfl) rfl (fun v_9 v_10 v_11 v_12 v_13 f_14 f_15 H locs hw hP hD hS => ?_)
        refine lv_iconst (v := (0 : Int32)) hx hb dX4_read_76 (by decide) ?_
        refine lv_istore (lv' := [(4, .int (0 : Int32)), (3, .int x_5), (0, .ref q_this), (1, .ref q_p0), (2, .ref q_p1)]) hx hb dX4_read_77 hl (by decide) rfl (fun ls hl => ?_)
        refine kLoop9 (G := fun (x_16 : Int32) (v_17 : Int32) (v_18 : Int32) (v_19 : Int32) (v_20 : Int32) (f_21 : Nat → Int32) (f_22 : Nat → Int32) (f_23 : Nat → Int32) (f_24 : Nat → Int32) => ∀ (H : Heap) (locs : List Loc), va_P D kCl [ob q_this 3 [.int v_17], ob q_p0 7 [.ref q_p0_bytes, .int v_p0_size], aI cI q_p0_bytes 40 f_p0_bytes, ob q_p1 4 [.ref q_p1_house, .int v_18, .ref q_p1_row, .int v_10], ob q_p1_house 2 [.int v_11, .int v_19, .int v_20, .ref q_p1_house_wants, .ref q_p1_house_stands, .ref q_p1_house_wantAt, .ref q_p1_house_standAt], aI cI q_p1_house_wantAt 6 f_21, aI cI q_p1_house_standAt 6 f_22, aI cI q_p1_house_wants 4 f_23, aI cI q_p1_house_stands 4 f_24] H → va_D A [ob q_this 3 [.int v_17], ob q_p0 7 [.ref q_p0_bytes, .int v_p0_size], aI cI q_p0_bytes 40 f_p0_bytes, ob q_p1 4 [.ref q_p1_house, .int v_18, .ref q_p1_row, .int v_10], ob q_p1_house 2 [.int v_11, .int v_19, .int v_20, .ref q_p1_house_wants, .ref q_p1_house_stands, .ref q_p1_house_wantAt, .ref q_p1_house_standAt], aI cI q_p1_house_wantAt 6 f_21, aI cI q_p1_house_standAt 6 f_22, aI cI q_p1_house_wants 4 f_23, aI cI q_p1_house_stands 4 f_24] → va_S A s.heap H locs → ∀ ls : Array Slot, lv_has ls 5 [(0, .ref q_this), (1, .ref q_p0), (2, .ref q_p1), (4, .int x_16)] → W p l e _ s m args below meth c H locs _ _ _ (F0 m 79 ls [])) hw ?_ H locs hP hD hS ls (lv_sub hl [2, 3, 4, 0] rfl)
        intro x_16 v_17 v_18 v_19 v_20 f_21 f_22 f_23 f_24 K79 hK79 hw H locs hP hD hS ls hl
        refine lv_iload hx hb dX4_read_79 (lv_at hl 3 rfl) ?_
        refine lv_bipush (v := (40 : Int32)) hx hb dX4_read_81 (by decide) ?_
        refine lv_icmp_ge (tgt := 117) hx hb dX4_read_83 (by decide) (fun c_25 => ?_) (fun c_25 => ?_)
        · replace hw := hw.1 c_25
          refine lv_bipush (v := (-9 : Int32)) hx hb dX4_read_117 (by decide) ?_
          exact W.iret (v := (-9 : Int32)) hx hb hr (kEi10 hw hP hD hK hS) hS.2.2 dX4_read_119
        · replace hw := hw.2 c_25
          refine lv_aload_n hx hb dX4_read_86 rfl (lv_at hl 0 rfl) ?_
          refine va_get (D := D) (ci := 3) (v := .int v_17) (C := RX4) (T := TX4) (N := 1) hx hb ht inX4 hown hK hP 0 rfl rfl 0 (by decide) (ht _ mw_45) (fun _ h9 => h9) rfl dX4_read_87 ?_
          refine lv_aload_n hx hb dX4_read_90 rfl (lv_at hl 1 rfl) ?_
          refine kCi0 (kRV hx hb hml hown ht hN hK hP hD (c_X9_size l D cI cJ cZ cR q_p0 q_p0_bytes v_p0_size _ hw) [1] rfl rfl (T := TX9) (N := 2) rfl rfl mw_297 mw_262 mw_263 mw_2 mw_264 hdX9_size ⟨Nat.le_of_ble_eq_true rfl, Nat.le_of_ble_eq_true rfl⟩ ⟨rfl, rfl⟩ hl.1 rfl (Nat.le_of_ble_eq_true rfl) dX4_read_91 ⟨Nat.zero_le _, Nat.zero_le _⟩) hP hD hS hA [1] [0, 2, 3, 4, 5, 6, 7, 8] [0, 8, 1, 2, 3, 4, 5, 6, 7] rfl rfl rfl rfl [ob q_this 3 [.int v_17], ob q_p0 7 [.ref q_p0_bytes, .int v_p0_size], aI cI q_p0_bytes 40 f_p0_bytes, ob q_p1 4 [.ref q_p1_house, .int v_18, .ref q_p1_row, .int v_10], ob q_p1_house 2 [.int v_11, .int v_19, .int v_20, .ref q_p1_house_wants, .ref q_p1_house_stands, .ref q_p1_house_wantAt, .ref q_p1_house_standAt], aI cI q_p1_house_wantAt 6 f_21, aI cI q_p1_house_standAt 6 f_22, aI cI q_p1_house_wants 4 f_23, aI cI q_p1_house_stands 4 f_24] rfl rfl (fun r_26 H locs hw hP hD hS => ?_)
          refine lv_icmp_ge (tgt := 117) hx hb dX4_read_94 (by decide) (fun c_27 => ?_) (fun c_27 => ?_)
          · replace hw := hw.1 c_27
            refine lv_bipush (v := (-9 : Int32)) hx hb dX4_read_117 (by decide) ?_
            exact W.iret (v := (-9 : Int32)) hx hb hr (kEi10 hw hP hD hK hS) hS.2.2 dX4_read_119
          · replace hw := hw.2 c_27
            refine lv_aload_n hx hb dX4_read_97 rfl (lv_at hl 0 rfl) ?_
            refine lv_aload_n hx hb dX4_read_98 rfl (lv_at hl 1 rfl) ?_
            refine lv_aload_n hx hb dX4_read_99 rfl (lv_at hl 2 rfl) ?_
            refine kCi8 (kRV hx hb hml hown ht hN hK hP hD (c_X4_readPart l D cI cJ cZ cR q_this q_p0 q_p0_bytes q_p1 q_p1_house q_p1_row q_p1_house_wants q_p1_house_stands q_p1_house_wantAt q_p1_house_standAt v_17 v_p0_size f_p0_bytes v_18 v_10 v_11 v_19 v_20 f_23 f_21 f_24 f_22 _ hw) [0, 1, 2, 3, 4, 7, 5, 8, 6] rfl rfl (T := TX4) (N := 1) rfl rfl mw_298 mw_300 ms_0 mw_3 mw_301 hdX4_readPart ⟨Nat.le_of_ble_eq_true rfl, Nat.le_of_ble_eq_true rfl⟩ ⟨rfl, rfl⟩ hl.1 rfl (Nat.le_of_ble_eq_true rfl) dX4_read_100 ⟨Nat.zero_le _, Nat.zero_le _⟩) hP hD hS hA [0, 1, 2, 3, 4, 7, 5, 8, 6] [] [0, 1, 2, 3, 4, 6, 8, 5, 7] rfl rfl rfl rfl (fun v_28 v_29 v_30 v_31 f_32 f_33 f_34 f_35 => [ob q_this 3 [.int v_28], ob q_p0 7 [.ref q_p0_bytes, .int v_p0_size], aI cI q_p0_bytes 40 f_p0_bytes, ob q_p1 4 [.ref q_p1_house, .int v_29, .ref q_p1_row, .int v_10], ob q_p1_house 2 [.int v_11, .int v_30, .int v_31, .ref q_p1_house_wants, .ref q_p1_house_stands, .ref q_p1_house_wantAt, .ref q_p1_house_standAt], aI cI q_p1_house_wantAt 6 f_33, aI cI q_p1_house_standAt 6 f_35, aI cI q_p1_house_wants 4 f_32, aI cI q_p1_house_stands 4 f_34]) (fun _ _ _ _ _ _ _ _ => rfl) rfl (fun r_36 v_28 v_29 v_30 v_31 f_32 f_33 f_34 f_35 H locs hw hP hD hS => ?_)
            refine lv_if_ne (tgt := 111) hx hb dX4_read_103 (by decide) (fun c_37 => ?_) (fun c_37 => ?_)
            · replace hw := hw.1 c_37
              obtain ⟨x_38, ex_38⟩ : ∃ y : Int32, y = x_16 + (1 : Int32) := ⟨_, rfl⟩
              replace hw := hw x_38 ex_38
              refine lv_iinc (v := x_38) (lv' := [(4, .int x_38), (0, .ref q_this), (1, .ref q_p0), (2, .ref q_p1)]) hx hb dX4_read_111 hl (k := 3) rfl (by rw [ex_38]; rfl) (by decide) rfl (fun ls hl => ?_)
              refine lv_goto (tgt := 79) hx hb dX4_read_114 (by decide) ?_
              exact hK79 _ _ _ _ _ _ _ _ _ hw H locs hP hD hS ls (lv_sub hl [1, 2, 3, 0] rfl)
            · replace hw := hw.2 c_37
              refine lv_aload_n hx hb dX4_read_106 rfl (lv_at hl 0 rfl) ?_
              refine va_get (D := D) (ci := 3) (v := .int v_28) (C := RX4) (T := TX4) (N := 1) hx hb ht inX4 hown hK hP 0 rfl rfl 0 (by decide) (ht _ mw_45) (fun _ h9 => h9) rfl dX4_read_107 ?_
              exact W.iret (v := v_28) hx hb hr (kEi10 hw hP hD hK hS) hS.2.2 dX4_read_110
      · replace hw := hw.2 c_7
        refine lv_aload_n hx hb dX4_read_56 rfl (lv_at hl 1 rfl) ?_
        refine va_get (D := D) (ci := 3) (v := .int x_3) (C := RX4) (T := TX4) (N := 1) hx hb ht inX4 hown hK hP 0 rfl rfl 0 (by decide) (ht _ mw_45) (fun _ h9 => h9) rfl dX4_read_57 ?_
        exact W.iret (v := x_3) hx hb hr (kEi10 hw hP hD hK hS) hS.2.2 dX4_read_60
  · replace hw := hw.2 c_2
    refine lv_aload_n hx hb dX4_read_18 rfl (lv_at hl 0 rfl) ?_
    refine va_get (D := D) (ci := 3) (v := .int (0 : Int32)) (C := RX4) (T := TX4) (N := 1) hx hb ht inX4 hown hK hP 0 rfl rfl 0 (by decide) (ht _ mw_45) (fun _ h9 => h9) rfl dX4_read_19 ?_
    exact W.iret (v := (0 : Int32)) hx hb hr (kEi10 hw hP hD hK hS) hS.2.2 dX4_read_22
def wp_X5_copyFrom (v_p0_state : Int32) (v_p0_size : Int32) (v_p0_house_floors : Int32) (v_p0_house_riders : Int32) (v_p0_house_strangers : Int32) (f_p0_house_wants : Nat → Int32) (f_this_house_wants : Nat → Int32) (f_p0_house_stands : Nat → Int32) (f_this_house_stands : Nat → Int32) (f_p0_house_wantAt : Nat → Int32) (f_this_house_wantAt : Nat → Int32) (f_p0_house_standAt : Nat → Int32) (f_this_house_standAt : Nat → Int32) (f_p0_row : Nat → Int32) (f_this_row : Nat → Int32) (P : Int32 → Int32 → Int32 → Int32 → Int32 → (Nat → Int32) → (Nat → Int32) → (Nat → Int32) → (Nat → Int32) → (Nat → Int32) → Prop) : Prop :=
  (wp_X3_copyFrom v_p0_house_floors v_p0_house_riders v_p0_house_strangers f_p0_house_wants f_this_house_wants f_p0_house_stands f_this_house_stands f_p0_house_wantAt f_this_house_wantAt f_p0_house_standAt f_this_house_standAt (fun v_1 v_2 v_3 f_4 f_5 f_6 f_7 => (wp_X10_copy 24 24 f_p0_row f_this_row (fun f_8 => P v_p0_state v_p0_size v_1 v_2 v_3 f_4 f_5 f_6 f_7 f_8))))
theorem hdX5_copyFrom : yX5_copyFrom.cls ≠ "java/lang/invoke/MethodHandle" ∧ yX5_copyFrom.cls ≠ "java/lang/invoke/VarHandle" ∧ (parseMethodDescriptor yX5_copyFrom.desc).map (fun d => d.parameters.length) = some 1 := by decide +kernel
set_option maxHeartbeats 4000000 in
set_option maxRecDepth 100000 in
theorem c_X5_copyFrom (l : Launch) (D : va_G) (cI cJ cZ cR : ClassId) (q_this q_this_house q_this_row q_p0 q_p0_house q_p0_row q_this_house_wants q_this_house_stands q_this_house_wantAt q_this_house_standAt q_p0_house_wants q_p0_house_stands q_p0_house_wantAt q_p0_house_standAt : Nat) (v_this_state : Int32) (v_this_size : Int32) (v_p0_state : Int32) (v_p0_size : Int32) (v_this_house_floors : Int32) (v_this_house_riders : Int32) (v_this_house_strangers : Int32) (v_p0_house_floors : Int32) (v_p0_house_riders : Int32) (v_p0_house_strangers : Int32) (f_p0_house_wants : Nat → Int32) (f_this_house_wants : Nat → Int32) (f_p0_house_stands : Nat → Int32) (f_this_house_stands : Nat → Int32) (f_p0_house_wantAt : Nat → Int32) (f_this_house_wantAt : Nat → Int32) (f_p0_house_standAt : Nat → Int32) (f_this_house_standAt : Nat → Int32) (f_p0_row : Nat → Int32) (f_this_row : Nat → Int32) (P : Int32 → Int32 → Int32 → Int32 → Int32 → (Nat → Int32) → (Nat → Int32) → (Nat → Int32) → (Nat → Int32) → (Nat → Int32) → Prop) (hw : wp_X5_copyFrom v_p0_state v_p0_size v_p0_house_floors v_p0_house_riders v_p0_house_strangers f_p0_house_wants f_this_house_wants f_p0_house_stands f_this_house_stands f_p0_house_wantAt f_this_house_wantAt f_p0_house_standAt f_this_house_standAt f_p0_row f_this_row P) : kM l yX5_copyFrom cX5_copyFrom 2 none { frames := 3, cells := 0, slots := 0, locals := 102 } D (kTy cI cJ cZ cR) [.ref q_this, .ref q_p0] [ob q_this 4 [.ref q_this_house, .int v_this_state, .ref q_this_row, .int v_this_size], ob q_p0 4 [.ref q_p0_house, .int v_p0_state, .ref q_p0_row, .int v_p0_size], ob q_this_house 2 [.int v_this_house_floors, .int v_this_house_riders, .int v_this_house_strangers, .ref q_this_house_wants, .ref q_this_house_stands, .ref q_this_house_wantAt, .ref q_this_house_standAt], ob q_p0_house 2 [.int v_p0_house_floors, .int v_p0_house_riders, .int v_p0_house_strangers, .ref q_p0_house_wants, .ref q_p0_house_stands, .ref q_p0_house_wantAt, .ref q_p0_house_standAt], aI cI q_p0_house_wants 4 f_p0_house_wants, aI cI q_this_house_wants 4 f_this_house_wants, aI cI q_p0_house_stands 4 f_p0_house_stands, aI cI q_this_house_stands 4 f_this_house_stands, aI cI q_p0_house_wantAt 6 f_p0_house_wantAt, aI cI q_this_house_wantAt 6 f_this_house_wantAt, aI cI q_p0_house_standAt 6 f_p0_house_standAt, aI cI q_this_house_standAt 6 f_this_house_standAt, aI cI q_p0_row 24 f_p0_row, aI cI q_this_row 24 f_this_row] (kQv10 D (kTy cI cJ cZ cR) P (fun y0 y1 y2 y3 y4 y5 y6 y7 y8 y9 => [ob q_this 4 [.ref q_this_house, .int y0, .ref q_this_row, .int y1], ob q_p0 4 [.ref q_p0_house, .int v_p0_state, .ref q_p0_row, .int v_p0_size], ob q_this_house 2 [.int y2, .int y3, .int y4, .ref q_this_house_wants, .ref q_this_house_stands, .ref q_this_house_wantAt, .ref q_this_house_standAt], ob q_p0_house 2 [.int v_p0_house_floors, .int v_p0_house_riders, .int v_p0_house_strangers, .ref q_p0_house_wants, .ref q_p0_house_stands, .ref q_p0_house_wantAt, .ref q_p0_house_standAt], aI cI q_p0_house_wants 4 f_p0_house_wants, aI cI q_this_house_wants 4 y5, aI cI q_p0_house_stands 4 f_p0_house_stands, aI cI q_this_house_stands 4 y6, aI cI q_p0_house_wantAt 6 f_p0_house_wantAt, aI cI q_this_house_wantAt 6 y7, aI cI q_p0_house_standAt 6 f_p0_house_standAt, aI cI q_this_house_standAt 6 y8, aI cI q_p0_row 24 f_p0_row, aI cI q_this_row 24 y9])) 0 0 := by
  refine kM.of (by decide) (Nat.le_of_ble_eq_true rfl) ?_
  intro p e s m args below meth c A ls hx hb hr ht hown hlocks hml hN hin hA hK hP hD hS hl
  replace hl : lv_has ls 2 [(0, .ref q_this), (1, .ref q_p0)] := hl
  obtain ⟨H, hH⟩ : ∃ H : Heap, H = s.heap := ⟨_, rfl⟩
  obtain ⟨locs, hlc⟩ : ∃ L : List Loc, L = [] := ⟨_, rfl⟩
  replace hP : va_P D kCl [ob q_this 4 [.ref q_this_house, .int v_this_state, .ref q_this_row, .int v_this_size], ob q_p0 4 [.ref q_p0_house, .int v_p0_state, .ref q_p0_row, .int v_p0_size], ob q_this_house 2 [.int v_this_house_floors, .int v_this_house_riders, .int v_this_house_strangers, .ref q_this_house_wants, .ref q_this_house_stands, .ref q_this_house_wantAt, .ref q_this_house_standAt], ob q_p0_house 2 [.int v_p0_house_floors, .int v_p0_house_riders, .int v_p0_house_strangers, .ref q_p0_house_wants, .ref q_p0_house_stands, .ref q_p0_house_wantAt, .ref q_p0_house_standAt], aI cI q_p0_house_wants 4 f_p0_house_wants, aI cI q_this_house_wants 4 f_this_house_wants, aI cI q_p0_house_stands 4 f_p0_house_stands, aI cI q_this_house_stands 4 f_this_house_stands, aI cI q_p0_house_wantAt 6 f_p0_house_wantAt, aI cI q_this_house_wantAt 6 f_this_house_wantAt, aI cI q_p0_house_standAt 6 f_p0_house_standAt, aI cI q_this_house_standAt 6 f_this_house_standAt, aI cI q_p0_row 24 f_p0_row, aI cI q_this_row 24 f_this_row] H := by rw [hH]; exact hP
  replace hS : va_S A s.heap H locs := by rw [hH, hlc]; exact hS
  replace hD : va_D A [ob q_this 4 [.ref q_this_house, .int v_this_state, .ref q_this_row, .int v_this_size], ob q_p0 4 [.ref q_p0_house, .int v_p0_state, .ref q_p0_row, .int v_p0_size], ob q_this_house 2 [.int v_this_house_floors, .int v_this_house_riders, .int v_this_house_strangers, .ref q_this_house_wants, .ref q_this_house_stands, .ref q_this_house_wantAt, .ref q_this_house_standAt], ob q_p0_house 2 [.int v_p0_house_floors, .int v_p0_house_riders, .int v_p0_house_strangers, .ref q_p0_house_wants, .ref q_p0_house_stands, .ref q_p0_house_wantAt, .ref q_p0_house_standAt], aI cI q_p0_house_wants 4 f_p0_house_wants, aI cI q_this_house_wants 4 f_this_house_wants, aI cI q_p0_house_stands 4 f_p0_house_stands, aI cI q_this_house_stands 4 f_this_house_stands, aI cI q_p0_house_wantAt 6 f_p0_house_wantAt, aI cI q_this_house_wantAt 6 f_this_house_wantAt, aI cI q_p0_house_standAt 6 f_p0_house_standAt, aI cI q_this_house_standAt 6 f_this_house_standAt, aI cI q_p0_row 24 f_p0_row, aI cI q_this_row 24 f_this_row] := hD
  rw [show W p l e _ s m args below meth c s.heap [] 0 0 _ _ = W p l e _ s m args below meth c H locs 0 0 _ _ from by rw [hH, hlc]]
  unfold wp_X5_copyFrom at hw
  refine lv_aload_n hx hb dX5_copyFrom_0 rfl (lv_at hl 0 rfl) ?_
  refine va_get (D := D) (ci := 4) (v := .ref q_this_house) (C := RX5) (T := TX5) (N := 4) hx hb ht inX5 hown hK hP 0 rfl rfl 0 (by decide) (ht _ mw_89) (fun _ h9 => h9) rfl dX5_copyFrom_1 ?_
  refine lv_aload_n hx hb dX5_copyFrom_4 rfl (lv_at hl 1 rfl) ?_
  refine va_get (D := D) (ci := 4) (v := .ref q_p0_house) (C := RX5) (T := TX5) (N := 4) hx hb ht inX5 hown hK hP 1 rfl rfl 0 (by decide) (ht _ mw_89) (fun _ h9 => h9) rfl dX5_copyFrom_5 ?_
  refine kCv7 (kRV hx hb hml hown ht hN hK hP hD (c_X3_copyFrom l D cI cJ cZ cR q_this_house q_this_house_wants q_this_house_stands q_this_house_wantAt q_this_house_standAt q_p0_house q_p0_house_wants q_p0_house_stands q_p0_house_wantAt q_p0_house_standAt v_this_house_floors v_this_house_riders v_this_house_strangers v_p0_house_floors v_p0_house_riders v_p0_house_strangers f_p0_house_wants f_this_house_wants f_p0_house_stands f_this_house_stands f_p0_house_wantAt f_this_house_wantAt f_p0_house_standAt f_this_house_standAt _ hw) [2, 3, 4, 5, 6, 7, 8, 9, 10, 11] rfl rfl (T := TX3) (N := 7) rfl rfl mw_358 mw_359 mw_360 mw_5 mw_361 hdX3_copyFrom ⟨Nat.le_of_ble_eq_true rfl, Nat.le_of_ble_eq_true rfl⟩ ⟨rfl, rfl⟩ hl.1 rfl (Nat.le_of_ble_eq_true rfl) dX5_copyFrom_8 ⟨Nat.zero_le _, Nat.zero_le _⟩) hP hD hS hA [2, 3, 4, 5, 6, 7, 8, 9, 10, 11] [0, 1, 12, 13] [0, 1, 4, 5, 6, 7, 8, 9, 10, 11, 12, 13, 2, 3] rfl rfl rfl rfl (fun v_1 v_2 v_3 f_4 f_5 f_6 f_7 => [ob q_this 4 [.ref q_this_house, .int v_this_state, .ref q_this_row, .int v_this_size], ob q_p0 4 [.ref q_p0_house, .int v_p0_state, .ref q_p0_row, .int v_p0_size], ob q_this_house 2 [.int v_1, .int v_2, .int v_3, .ref q_this_house_wants, .ref q_this_house_stands, .ref q_this_house_wantAt, .ref q_this_house_standAt], ob q_p0_house 2 [.int v_p0_house_floors, .int v_p0_house_riders, .int v_p0_house_strangers, .ref q_p0_house_wants, .ref q_p0_house_stands, .ref q_p0_house_wantAt, .ref q_p0_house_standAt], aI cI q_p0_house_wants 4 f_p0_house_wants, aI cI q_this_house_wants 4 f_4, aI cI q_p0_house_stands 4 f_p0_house_stands, aI cI q_this_house_stands 4 f_5, aI cI q_p0_house_wantAt 6 f_p0_house_wantAt, aI cI q_this_house_wantAt 6 f_6, aI cI q_p0_house_standAt 6 f_p0_house_standAt, aI cI q_this_house_standAt 6 f_7, aI cI q_p0_row 24 f_p0_row, aI cI q_this_row 24 f_this_row]) (fun _ _ _ _ _ _ _ => rfl) rfl (fun v_1 v_2 v_3 f_4 f_5 f_6 f_7 H locs hw hP hD hS => ?_)
  refine lv_aload_n hx hb dX5_copyFrom_11 rfl (lv_at hl 0 rfl) ?_
  refine lv_aload_n hx hb dX5_copyFrom_12 rfl (lv_at hl 1 rfl) ?_
  refine va_get (D := D) (ci := 4) (v := .int v_p0_state) (C := RX5) (T := TX5) (N := 4) hx hb ht inX5 hown hK hP 1 rfl rfl 1 (by decide) (ht _ mw_92) (fun _ h9 => h9) rfl dX5_copyFrom_13 ?_
  refine va_put (D := D) (ci := 4) (v := .int v_p0_state) (ty := .int) (C := RX5) (T := TX5) (N := 4) hx hb ht inX5 tyX5 tyX5_ok nmX5 hown hK hP hD hS 0 rfl rfl 1 (by decide) (ht _ mw_92) (fun _ h9 => h9) rfl (by decide +kernel) rfl rfl (Nat.le_of_ble_eq_true rfl) dX5_copyFrom_16 (fun H locs hP hD hS => ?_)
  replace hP : va_P D kCl [ob q_this 4 [.ref q_this_house, .int v_p0_state, .ref q_this_row, .int v_this_size], ob q_p0 4 [.ref q_p0_house, .int v_p0_state, .ref q_p0_row, .int v_p0_size], ob q_this_house 2 [.int v_1, .int v_2, .int v_3, .ref q_this_house_wants, .ref q_this_house_stands, .ref q_this_house_wantAt, .ref q_this_house_standAt], ob q_p0_house 2 [.int v_p0_house_floors, .int v_p0_house_riders, .int v_p0_house_strangers, .ref q_p0_house_wants, .ref q_p0_house_stands, .ref q_p0_house_wantAt, .ref q_p0_house_standAt], aI cI q_p0_house_wants 4 f_p0_house_wants, aI cI q_this_house_wants 4 f_4, aI cI q_p0_house_stands 4 f_p0_house_stands, aI cI q_this_house_stands 4 f_5, aI cI q_p0_house_wantAt 6 f_p0_house_wantAt, aI cI q_this_house_wantAt 6 f_6, aI cI q_p0_house_standAt 6 f_p0_house_standAt, aI cI q_this_house_standAt 6 f_7, aI cI q_p0_row 24 f_p0_row, aI cI q_this_row 24 f_this_row] H := hP
  replace hD : va_D A [ob q_this 4 [.ref q_this_house, .int v_p0_state, .ref q_this_row, .int v_this_size], ob q_p0 4 [.ref q_p0_house, .int v_p0_state, .ref q_p0_row, .int v_p0_size], ob q_this_house 2 [.int v_1, .int v_2, .int v_3, .ref q_this_house_wants, .ref q_this_house_stands, .ref q_this_house_wantAt, .ref q_this_house_standAt], ob q_p0_house 2 [.int v_p0_house_floors, .int v_p0_house_riders, .int v_p0_house_strangers, .ref q_p0_house_wants, .ref q_p0_house_stands, .ref q_p0_house_wantAt, .ref q_p0_house_standAt], aI cI q_p0_house_wants 4 f_p0_house_wants, aI cI q_this_house_wants 4 f_4, aI cI q_p0_house_stands 4 f_p0_house_stands, aI cI q_this_house_stands 4 f_5, aI cI q_p0_house_wantAt 6 f_p0_house_wantAt, aI cI q_this_house_wantAt 6 f_6, aI cI q_p0_house_standAt 6 f_p0_house_standAt, aI cI q_this_house_standAt 6 f_7, aI cI q_p0_row 24 f_p0_row, aI cI q_this_row 24 f_this_row] := hD
  refine lv_aload_n hx hb dX5_copyFrom_19 rfl (lv_at hl 1 rfl) ?_
  refine va_get (D := D) (ci := 4) (v := .ref q_p0_row) (C := RX5) (T := TX5) (N := 4) hx hb ht inX5 hown hK hP 1 rfl rfl 2 (by decide) (ht _ mw_94) (fun _ h9 => h9) rfl dX5_copyFrom_20 ?_
  refine lv_aload_n hx hb dX5_copyFrom_23 rfl (lv_at hl 0 rfl) ?_
  refine va_get (D := D) (ci := 4) (v := .ref q_this_row) (C := RX5) (T := TX5) (N := 4) hx hb ht inX5 hown hK hP 0 rfl rfl 2 (by decide) (ht _ mw_94) (fun _ h9 => h9) rfl dX5_copyFrom_24 ?_
  refine kCv1 (kRSN hx hb hml hown ht hN hK hP hD (c_X10_copy l D cI cJ cZ cR q_p0_row q_this_row 24 24 f_p0_row f_this_row _ hw) [12, 13] rfl rfl mn_371 mw_363 mw_1 mw_364 hdX10_copy ⟨Nat.le_of_ble_eq_true rfl, Nat.le_of_ble_eq_true rfl⟩ ⟨rfl, rfl⟩ hl.1 rfl (Nat.le_of_ble_eq_true rfl) dX5_copyFrom_27 ⟨Nat.zero_le _, Nat.zero_le _⟩) hP hD hS hA [12, 13] [0, 1, 2, 3, 4, 5, 6, 7, 8, 9, 10, 11] [0, 1, 2, 3, 4, 5, 6, 7, 8, 9, 10, 11, 12, 13] rfl rfl rfl rfl (fun f_8 => [ob q_this 4 [.ref q_this_house, .int v_p0_state, .ref q_this_row, .int v_this_size], ob q_p0 4 [.ref q_p0_house, .int v_p0_state, .ref q_p0_row, .int v_p0_size], ob q_this_house 2 [.int v_1, .int v_2, .int v_3, .ref q_this_house_wants, .ref q_this_house_stands, .ref q_this_house_wantAt, .ref q_this_house_standAt], ob q_p0_house 2 [.int v_p0_house_floors, .int v_p0_house_riders, .int v_p0_house_strangers, .ref q_p0_house_wants, .ref q_p0_house_stands, .ref q_p0_house_wantAt, .ref q_p0_house_standAt], aI cI q_p0_house_wants 4 f_p0_house_wants, aI cI q_this_house_wants 4 f_4, aI cI q_p0_house_stands 4 f_p0_house_stands, aI cI q_this_house_stands 4 f_5, aI cI q_p0_house_wantAt 6 f_p0_house_wantAt, aI cI q_this_house_wantAt 6 f_6, aI cI q_p0_house_standAt 6 f_p0_house_standAt, aI cI q_this_house_standAt 6 f_7, aI cI q_p0_row 24 f_p0_row, aI cI q_this_row 24 f_8]) (fun _ => rfl) rfl (fun f_8 H locs hw hP hD hS => ?_)
  refine lv_aload_n hx hb dX5_copyFrom_30 rfl (lv_at hl 0 rfl) ?_
  refine lv_aload_n hx hb dX5_copyFrom_31 rfl (lv_at hl 1 rfl) ?_
  refine va_get (D := D) (ci := 4) (v := .int v_p0_size) (C := RX5) (T := TX5) (N := 4) hx hb ht inX5 hown hK hP 1 rfl rfl 3 (by decide) (ht _ mw_95) (fun _ h9 => h9) rfl dX5_copyFrom_32 ?_
  refine va_put (D := D) (ci := 4) (v := .int v_p0_size) (ty := .int) (C := RX5) (T := TX5) (N := 4) hx hb ht inX5 tyX5 tyX5_ok nmX5 hown hK hP hD hS 0 rfl rfl 3 (by decide) (ht _ mw_95) (fun _ h9 => h9) rfl (by decide +kernel) rfl rfl (Nat.le_of_ble_eq_true rfl) dX5_copyFrom_35 (fun H locs hP hD hS => ?_)
  replace hP : va_P D kCl [ob q_this 4 [.ref q_this_house, .int v_p0_state, .ref q_this_row, .int v_p0_size], ob q_p0 4 [.ref q_p0_house, .int v_p0_state, .ref q_p0_row, .int v_p0_size], ob q_this_house 2 [.int v_1, .int v_2, .int v_3, .ref q_this_house_wants, .ref q_this_house_stands, .ref q_this_house_wantAt, .ref q_this_house_standAt], ob q_p0_house 2 [.int v_p0_house_floors, .int v_p0_house_riders, .int v_p0_house_strangers, .ref q_p0_house_wants, .ref q_p0_house_stands, .ref q_p0_house_wantAt, .ref q_p0_house_standAt], aI cI q_p0_house_wants 4 f_p0_house_wants, aI cI q_this_house_wants 4 f_4, aI cI q_p0_house_stands 4 f_p0_house_stands, aI cI q_this_house_stands 4 f_5, aI cI q_p0_house_wantAt 6 f_p0_house_wantAt, aI cI q_this_house_wantAt 6 f_6, aI cI q_p0_house_standAt 6 f_p0_house_standAt, aI cI q_this_house_standAt 6 f_7, aI cI q_p0_row 24 f_p0_row, aI cI q_this_row 24 f_8] H := hP
  replace hD : va_D A [ob q_this 4 [.ref q_this_house, .int v_p0_state, .ref q_this_row, .int v_p0_size], ob q_p0 4 [.ref q_p0_house, .int v_p0_state, .ref q_p0_row, .int v_p0_size], ob q_this_house 2 [.int v_1, .int v_2, .int v_3, .ref q_this_house_wants, .ref q_this_house_stands, .ref q_this_house_wantAt, .ref q_this_house_standAt], ob q_p0_house 2 [.int v_p0_house_floors, .int v_p0_house_riders, .int v_p0_house_strangers, .ref q_p0_house_wants, .ref q_p0_house_stands, .ref q_p0_house_wantAt, .ref q_p0_house_standAt], aI cI q_p0_house_wants 4 f_p0_house_wants, aI cI q_this_house_wants 4 f_4, aI cI q_p0_house_stands 4 f_p0_house_stands, aI cI q_this_house_stands 4 f_5, aI cI q_p0_house_wantAt 6 f_p0_house_wantAt, aI cI q_this_house_wantAt 6 f_6, aI cI q_p0_house_standAt 6 f_p0_house_standAt, aI cI q_this_house_standAt 6 f_7, aI cI q_p0_row 24 f_p0_row, aI cI q_this_row 24 f_8] := hD
  exact W.vret hx hb hr (kEv10 hw hP hD hK hS) hS.2.2 dX5_copyFrom_38
def wp_X8_inside (p0 : Int32) (P : Int32 → Prop) : Prop :=
  (wp_X8_strangersAt p0 (7 : Int32) (fun r_1 => P ((p0 &&& (15 : Int32)) ||| r_1)))
theorem hdX8_inside : yX8_inside.cls ≠ "java/lang/invoke/MethodHandle" ∧ yX8_inside.cls ≠ "java/lang/invoke/VarHandle" ∧ (parseMethodDescriptor yX8_inside.desc).map (fun d => d.parameters.length) = some 1 := by decide +kernel
set_option maxHeartbeats 4000000 in
set_option maxRecDepth 100000 in
theorem c_X8_inside (l : Launch) (D : va_G) (cI cJ cZ cR : ClassId) (p0 : Int32) (P : Int32 → Prop) (hw : wp_X8_inside p0 P) : kM l yX8_inside cX8_inside 1 (some .int) { frames := 1, cells := 0, slots := 0, locals := 23 } D (kTy cI cJ cZ cR) [.int p0] [] (kQi0 D (kTy cI cJ cZ cR) P []) 0 0 := by
  refine kM.of (by decide) (Nat.le_of_ble_eq_true rfl) ?_
  intro p e s m args below meth c A ls hx hb hr ht hown hlocks hml hN hin hA hK hP hD hS hl
  replace hl : lv_has ls 1 [(0, .int p0)] := hl
  obtain ⟨H, hH⟩ : ∃ H : Heap, H = s.heap := ⟨_, rfl⟩
  obtain ⟨locs, hlc⟩ : ∃ L : List Loc, L = [] := ⟨_, rfl⟩
  replace hP : va_P D kCl [] H := by rw [hH]; exact hP
  replace hS : va_S A s.heap H locs := by rw [hH, hlc]; exact hS
  replace hD : va_D A [] := hD
  rw [show W p l e _ s m args below meth c s.heap [] 0 0 _ _ = W p l e _ s m args below meth c H locs 0 0 _ _ from by rw [hH, hlc]]
  unfold wp_X8_inside at hw
  refine lv_iload_n hx hb dX8_inside_0 rfl (lv_at hl 0 rfl) ?_
  refine lv_bipush (v := (15 : Int32)) hx hb dX8_inside_1 (by decide) ?_
  refine lv_iand hx hb dX8_inside_3 ?_
  refine lv_iload_n hx hb dX8_inside_4 rfl (lv_at hl 0 rfl) ?_
  refine lv_bipush (v := (7 : Int32)) hx hb dX8_inside_5 (by decide) ?_
  refine kCi0 (kRS hx hb hml hown ht hN hK hP hD (c_X8_strangersAt l D cI cJ cZ cR p0 (7 : Int32) _ hw) [] rfl rfl mw_391 mw_392 mw_12 mw_393 hdX8_strangersAt ⟨Nat.le_of_ble_eq_true rfl, Nat.le_of_ble_eq_true rfl⟩ ⟨rfl, rfl⟩ hl.1 rfl (Nat.le_of_ble_eq_true rfl) dX8_inside_7 ⟨Nat.zero_le _, Nat.zero_le _⟩) hP hD hS hA [] [] [] rfl rfl rfl rfl [] rfl rfl (fun r_1 H locs hw hP hD hS => ?_)
  refine lv_ior hx hb dX8_inside_10 ?_
  exact W.iret (v := ((p0 &&& (15 : Int32)) ||| r_1)) hx hb hr (kEi0 hw hP hD hK hS) hS.2.2 dX8_inside_11
def wp_X8_done (p0 : Int32) (P : Int32 → Prop) : Prop :=
  P ((p0 >>> ((4 : Int32) &&& 31)) &&& (15 : Int32))
theorem hdX8_done : yX8_done.cls ≠ "java/lang/invoke/MethodHandle" ∧ yX8_done.cls ≠ "java/lang/invoke/VarHandle" ∧ (parseMethodDescriptor yX8_done.desc).map (fun d => d.parameters.length) = some 1 := by decide +kernel
set_option maxHeartbeats 4000000 in
set_option maxRecDepth 100000 in
theorem c_X8_done (l : Launch) (D : va_G) (cI cJ cZ cR : ClassId) (p0 : Int32) (P : Int32 → Prop) (hw : wp_X8_done p0 P) : kM l yX8_done cX8_done 1 (some .int) { frames := 0, cells := 0, slots := 0, locals := 0 } D (kTy cI cJ cZ cR) [.int p0] [] (kQi0 D (kTy cI cJ cZ cR) P []) 0 0 := by
  refine kM.of (by decide) (Nat.le_of_ble_eq_true rfl) ?_
  intro p e s m args below meth c A ls hx hb hr ht hown hlocks hml hN hin hA hK hP hD hS hl
  replace hl : lv_has ls 1 [(0, .int p0)] := hl
  obtain ⟨H, hH⟩ : ∃ H : Heap, H = s.heap := ⟨_, rfl⟩
  obtain ⟨locs, hlc⟩ : ∃ L : List Loc, L = [] := ⟨_, rfl⟩
  replace hP : va_P D kCl [] H := by rw [hH]; exact hP
  replace hS : va_S A s.heap H locs := by rw [hH, hlc]; exact hS
  replace hD : va_D A [] := hD
  rw [show W p l e _ s m args below meth c s.heap [] 0 0 _ _ = W p l e _ s m args below meth c H locs 0 0 _ _ from by rw [hH, hlc]]
  unfold wp_X8_done at hw
  refine lv_iload_n hx hb dX8_done_0 rfl (lv_at hl 0 rfl) ?_
  refine lv_iconst (v := (4 : Int32)) hx hb dX8_done_1 (by decide) ?_
  refine lv_ishr hx hb dX8_done_2 ?_
  refine lv_bipush (v := (15 : Int32)) hx hb dX8_done_3 (by decide) ?_
  refine lv_iand hx hb dX8_done_5 ?_
  exact W.iret (v := ((p0 >>> ((4 : Int32) &&& 31)) &&& (15 : Int32))) hx hb hr (kEi0 hw hP hD hK hS) hS.2.2 dX8_done_6
def wp_X8_placeOf (p0 : Int32) (p1 : Int32) (P : Int32 → Prop) : Prop :=
  ((¬ p1 = (4 : Int32) → P ((p0 >>> ((11 : Int32) &&& 31)) &&& (7 : Int32))) ∧ (p1 = (4 : Int32) → P ((p0 >>> ((8 : Int32) &&& 31)) &&& (7 : Int32))))
theorem hdX8_placeOf : yX8_placeOf.cls ≠ "java/lang/invoke/MethodHandle" ∧ yX8_placeOf.cls ≠ "java/lang/invoke/VarHandle" ∧ (parseMethodDescriptor yX8_placeOf.desc).map (fun d => d.parameters.length) = some 2 := by decide +kernel
set_option maxHeartbeats 4000000 in
set_option maxRecDepth 100000 in
theorem c_X8_placeOf (l : Launch) (D : va_G) (cI cJ cZ cR : ClassId) (p0 : Int32) (p1 : Int32) (P : Int32 → Prop) (hw : wp_X8_placeOf p0 p1 P) : kM l yX8_placeOf cX8_placeOf 2 (some .int) { frames := 0, cells := 0, slots := 0, locals := 0 } D (kTy cI cJ cZ cR) [.int p0, .int p1] [] (kQi0 D (kTy cI cJ cZ cR) P []) 0 0 := by
  refine kM.of (by decide) (Nat.le_of_ble_eq_true rfl) ?_
  intro p e s m args below meth c A ls hx hb hr ht hown hlocks hml hN hin hA hK hP hD hS hl
  replace hl : lv_has ls 2 [(0, .int p0), (1, .int p1)] := hl
  obtain ⟨H, hH⟩ : ∃ H : Heap, H = s.heap := ⟨_, rfl⟩
  obtain ⟨locs, hlc⟩ : ∃ L : List Loc, L = [] := ⟨_, rfl⟩
  replace hP : va_P D kCl [] H := by rw [hH]; exact hP
  replace hS : va_S A s.heap H locs := by rw [hH, hlc]; exact hS
  replace hD : va_D A [] := hD
  rw [show W p l e _ s m args below meth c s.heap [] 0 0 _ _ = W p l e _ s m args below meth c H locs 0 0 _ _ from by rw [hH, hlc]]
  unfold wp_X8_placeOf at hw
  refine lv_iload_n hx hb dX8_placeOf_0 rfl (lv_at hl 0 rfl) ?_
  refine lv_iload_n hx hb dX8_placeOf_1 rfl (lv_at hl 1 rfl) ?_
  refine lv_iconst (v := (4 : Int32)) hx hb dX8_placeOf_2 (by decide) ?_
  refine lv_icmp_ne (tgt := 11) hx hb dX8_placeOf_3 (by decide) (fun c_1 => ?_) (fun c_1 => ?_)
  · replace hw := hw.1 c_1
    refine lv_bipush (v := (11 : Int32)) hx hb dX8_placeOf_11 (by decide) ?_
    refine lv_ishr hx hb dX8_placeOf_13 ?_
    refine lv_bipush (v := (7 : Int32)) hx hb dX8_placeOf_14 (by decide) ?_
    refine lv_iand hx hb dX8_placeOf_16 ?_
    exact W.iret (v := ((p0 >>> ((11 : Int32) &&& 31)) &&& (7 : Int32))) hx hb hr (kEi0 hw hP hD hK hS) hS.2.2 dX8_placeOf_17
  · replace hw := hw.2 c_1
    refine lv_bipush (v := (8 : Int32)) hx hb dX8_placeOf_6 (by decide) ?_
    refine lv_goto (tgt := 13) hx hb dX8_placeOf_8 (by decide) ?_
    refine lv_ishr hx hb dX8_placeOf_13 ?_
    refine lv_bipush (v := (7 : Int32)) hx hb dX8_placeOf_14 (by decide) ?_
    refine lv_iand hx hb dX8_placeOf_16 ?_
    exact W.iret (v := ((p0 >>> ((8 : Int32) &&& 31)) &&& (7 : Int32))) hx hb hr (kEi0 hw hP hD hK hS) hS.2.2 dX8_placeOf_17
