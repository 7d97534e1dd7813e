/-! own kit: contracts with one list of words, calls by them -/
abbrev kCl : List vw_C := [(RX0, TX0, 5), (RX1, TX1, 4), (RX3, TX3, 7), (RX4, TX4, 1), (RX5, TX5, 4), (RX6, TX6, 6), (RX7, TX7, 6), (RX9, TX9, 2), (RX10, TX10, 11), (RX11, TX11, 37)]
abbrev kTy (cI cJ cZ cR : ClassId) : List (ClassId × FieldType) := [(cI, .int), (cJ, .long), (cZ, .boolean), (cR, .object "LiftExchange$Ride")]
abbrev aI (cI : ClassId) (h n : Nat) (f : Nat → Int32) : Nat × va_E := (h, .inl (cI, n, .inl f))
abbrev aJ (cJ : ClassId) (h n : Nat) (f : Nat → Int64) : Nat × va_E := (h, .inl (cJ, n, .inr (.inl f)))
abbrev aQ (cR : ClassId) (h n : Nat) (f : Nat → Option Nat) : Nat × va_E := (h, .inl (cR, n, .inr (.inr (.inr (.inr f)))))
abbrev ob (h ci : Nat) (fs : List Value) : Nat × va_E := (h, .inr (ci, fs))
theorem inX0 : ∀ w ∈ wsX00, w ∈ kTb := by decide +kernel
theorem inX1 : ∀ w ∈ wsX10, w ∈ kTb := by decide +kernel
theorem inX3 : ∀ w ∈ wsX30, w ∈ kTb := by decide +kernel
theorem inX4 : ∀ w ∈ wsX40, w ∈ kTb := by decide +kernel
theorem inX5 : ∀ w ∈ wsX50, w ∈ kTb := by decide +kernel
theorem inX6 : ∀ w ∈ wsX60, w ∈ kTb := by decide +kernel
theorem inX7 : ∀ w ∈ wsX70, w ∈ kTb := by decide +kernel
theorem inX9 : ∀ w ∈ wsX90, w ∈ kTb := by decide +kernel
theorem inX10 : ∀ w ∈ wsX100, w ∈ kTb := by decide +kernel
theorem inX11 : ∀ w ∈ wsX110, w ∈ kTb := by decide +kernel
theorem kGood {c2 : Cond} (h2 : c2 ∈ kTb) : GoodIn kTb (c2 :: kTb) := fun w hw => by
  have h : w ∈ kTb := by
    rcases List.mem_cons.mp hw with rfl | h
    · exact h2
    · exact h
  exact ⟨h, good_of_word (List.mem_filter.mp h).2⟩
def kPre (D : va_G) (tys : List (ClassId × FieldType)) (wc : va_W) (sz : Nat) (U : State) : Prop := U.heap.size = sz ∧ va_P D kCl wc U.heap ∧ va_K D kCl tys U ∧ va_D (fun _ => True) wc ∧ kN U
theorem kPre.blind {D : va_G} {tys : List (ClassId × FieldType)} {wc : va_W} {sz : Nat} {As : List Value} : FrameBlind (va_Pc As (kPre D tys wc sz)) := fun a U g mk q => ⟨q.1, q.2.1, q.2.2.1, va_K.moved (u := U) (U := U.calling g mk a) (Vm.Alike.refl U.vm) q.2.2.2.1, q.2.2.2.2.1, kN.same (u := U) (U := U.calling g mk a) rfl q.2.2.2.2.2⟩
def kM (l : Launch) (y : MethodName) (b : ByteArray) (n : Nat) (ret : Option FieldType) (rm : Room) (D : va_G) (tys : List (ClassId × FieldType)) (As : List Value) (wc : va_W) (Qf : (Nat → Prop) → Array Value → State → Outcome → State → Prop) (mc ms : Nat) : Prop :=
  ∀ sz : Nat, Met l y (.code y b n ret :: kTb) rm (va_Pc As (kPre D tys wc sz)) (Qf (va_A wc sz)) mc ms (va_A wc sz)
theorem kM.of {l : Launch} {y : MethodName} {b : ByteArray} {n : Nat} {ret : Option FieldType} {rm : Room} {D : va_G} {tys : List (ClassId × FieldType)} {As : List Value} {wc : va_W} {Qf : (Nat → Prop) → Array Value → State → Outcome → State → Prop} {mc ms : Nat} (hy : plainName y.cls = true) (hn : (lg_sl As).length ≤ n)
    (body : ∀ (p : Program) (e : Env) (s : State) (m : MethodId) (args : Array Value) (below : List Frame) (meth : Method) (c : Code) (A : Nat → Prop) (ls : Array Slot), p.tables.exec = Jvm.exec → c.code = b → meth.sig.returnType = ret → (∀ w ∈ kTb, w.before args s = true) → s.vm.findClass y.cls = some m.cls → meth.locks = false → c.maxLocals = n → kN s → meth.name = y.name → (∀ q : Nat, s.heap.size ≤ q → A q) → va_K D kCl tys s → va_P D kCl wc s.heap → va_D A wc → va_S A s.heap s.heap [] → lv_has ls n (lv_args 0 As) →
      W p l e rm s m args below meth c s.heap [] 0 0 (MQ below (Qf A) args s mc ms A) (F0 m 0 ls [])) : kM l y b n ret rm D tys As wc Qf mc ms := by
  intro sz
  refine Met.ofW (cc := b) (maxL := n) (ret := ret) hy rfl ?_
  intro p e s m args below meth c s₁ B hml hv
  obtain ⟨rfl, hsz, hP, hK, hD0, hN⟩ := hv
  subst hsz
  rw [lg_entry_eq]
  exact body p e s m _ below meth c (va_A wc s.heap.size) _ B.exec B.bytes B.returns (fun w h => atoms_spec (ws := .code y b n ret :: kTb) B.pre w (List.mem_cons_of_mem _ h)) (findClass_of_methodNamed B.named) B.notSynchronized hml hN (name_of_methodNamed B.named B.method).1 (fun q h => Or.inr h) hK hP hD0.self va_S.rf (lv_entry As hn)
section KC
variable {p : Program} {l : Launch} {e : Env} {R : Room} {s : State} {m : MethodId} {args : Array Value} {below : List Frame} {meth : Method} {c : Code} {H : Heap} {locs : List Loc} {cells slots : Nat} {Q : State → Prop}
variable {y : MethodName} {b cc : ByteArray} {n nL mc ms index k : Nat} {ret : Option FieldType} {rm : Room} {D : va_G} {tys : List (ClassId × FieldType)} {wc ws : va_W} {Qf : (Nat → Prop) → Array Value → State → Outcome → State → Prop} {own : String} {As rest : List Value} {A0 : Nat → Prop} {pc : Nat} {ls : Array Slot} {st0 : List Value}
theorem kSubP (hP : va_P D kCl ws H) (isC : List Nat) (hC : isC.map (fun i => ws[i]?) = wc.map some) : va_P D kCl wc H := by
  intro j q hj
  have h1 : (isC.map (fun i => ws[i]?))[j]? = some (some q) := by rw [hC, List.getElem?_map, hj]; rfl
  rw [List.getElem?_map] at h1
  cases hi : isC[j]? with
  | none => rw [hi] at h1; cases h1
  | some i => rw [hi] at h1; exact hP i q (Option.some.inj h1)
theorem kPreS (hK : va_K D kCl tys s) (hN : kN s) (hP : va_P D kCl ws H) (hD : va_D A0 ws) (isC : List Nat) (hC : isC.map (fun i => ws[i]?) = wc.map some) (hnC : va_nd isC = true) (As : List Value) : FrameBlind (va_Pc As (kPre D tys wc H.size)) ∧ ∀ U : State, U.heap = H → s.WarmedH U.vm → va_Pc As (kPre D tys wc H.size) As.toArray U := by
  exact ⟨kPre.blind, fun U hU hW => ⟨rfl, by rw [hU], by rw [hU]; exact kSubP hP isC hC, va_K.moved hW.alike hK, (hD.sub isC hnC hC).weaken (fun _ _ _ _ => trivial), kN.warm hW hN⟩⟩
theorem kRV {a ci N : Nat} {T : u_T} {fs : List Value} (hx : p.tables.exec = Jvm.exec) (hb : c.code = cc) (hml : c.maxLocals = nL) (hown : s.vm.findClass own = some m.cls) (ht : ∀ w ∈ kTb, w.before args s = true) (hN : kN s) (hK : va_K D kCl tys s) (hP : va_P D kCl ws H) (hD : va_D A0 ws)
    (hM : kM l y b n ret rm D tys (.ref a :: As) wc Qf mc ms) (isC : List Nat) (hC : isC.map (fun i => ws[i]?) = wc.map some) (hnC : va_nd isC = true)
    (hrec : wc[0]? = some (a, .inr (ci, fs))) (hci : kCl[ci]? = some (y.cls, T, N)) (hlink : Cond.methodLink own index y ∈ kTb) (hinst : Cond.instanceMethod y ∈ kTb) (hsel : Cond.selects y.cls y y ∈ kTb) (hini : Cond.initialized y.cls ∈ kTb) (hcode : Cond.code y b n ret ∈ kTb)
    (hd : y.cls ≠ "java/lang/invoke/MethodHandle" ∧ y.cls ≠ "java/lang/invoke/VarHandle" ∧ (parseMethodDescriptor y.desc).map (fun d => d.parameters.length) = some As.length) (hR : rm.frames + 1 ≤ R.frames ∧ 8 + (n + 11) + rm.locals ≤ R.locals) (hrm : rm.cells = mc ∧ rm.slots = ms)
    (hls : ls.size = nL) (hst : st0 = As.reverse ++ .ref a :: rest) (hrest : (rest.map fun v => v.category).sum ≤ 8) (hdg : decode cc pc = .ok (.invokevirtual index, 3)) (hf : cells + mc ≤ R.cells ∧ slots + ms ≤ R.slots) :
    va_Run p l e R s m args below meth c H locs cells slots mc ms (F0 m pc ls st0) rest (Qf (va_A wc H.size) (Value.ref a :: As).toArray) (va_A wc H.size) := by
  have hp := kPreS hK hN hP hD isC hC hnC (.ref a :: As)
  have hPc := kSubP hP isC hC
  exact va_runV ⟨hx, hb, hml, hown, ht⟩ (hM H.size) ⟨callB_of As.length ht (kGood hcode) rfl hrm.1 hrm.2 (ht _ hini) (ht _ hlink) hd hR, ht _ hinst, ht _ hsel⟩ ⟨hp.1, va_recv hK hPc hci hrec, hp.2⟩ rfl rfl hls hst (lv_room hrest) hdg hf
theorem kRVN {host : String} {a ci N : Nat} {T : u_T} {fs : List Value} (hx : p.tables.exec = Jvm.exec) (hb : c.code = cc) (hml : c.maxLocals = nL) (hown : s.vm.findClass own = some m.cls) (ht : ∀ w ∈ kTb, w.before args s = true) (hN : kN s) (hK : va_K D kCl tys s) (hP : va_P D kCl ws H) (hD : va_D A0 ws)
    (hM : kM l y b n ret rm D tys (.ref a :: As) wc Qf mc ms) (isC : List Nat) (hC : isC.map (fun i => ws[i]?) = wc.map some) (hnC : va_nd isC = true)
    (hrec : wc[0]? = some (a, .inr (ci, fs))) (hci : kCl[ci]? = some (y.cls, T, N)) (hlink : Cond.methodLinkNest own index y host ∈ kNest) (hinst : Cond.instanceMethod y ∈ kTb) (hsel : Cond.selects y.cls y y ∈ kTb) (hini : Cond.initialized y.cls ∈ kTb) (hcode : Cond.code y b n ret ∈ kTb)
    (hd : y.cls ≠ "java/lang/invoke/MethodHandle" ∧ y.cls ≠ "java/lang/invoke/VarHandle" ∧ (parseMethodDescriptor y.desc).map (fun d => d.parameters.length) = some As.length) (hR : rm.frames + 1 ≤ R.frames ∧ 8 + (n + 11) + rm.locals ≤ R.locals) (hrm : rm.cells = mc ∧ rm.slots = ms)
    (hls : ls.size = nL) (hst : st0 = As.reverse ++ .ref a :: rest) (hrest : (rest.map fun v => v.category).sum ≤ 8) (hdg : decode cc pc = .ok (.invokevirtual index, 3)) (hf : cells + mc ≤ R.cells ∧ slots + ms ≤ R.slots) :
    va_Run p l e R s m args below meth c H locs cells slots mc ms (F0 m pc ls st0) rest (Qf (va_A wc H.size) (Value.ref a :: As).toArray) (va_A wc H.size) := by
  have hp := kPreS hK hN hP hD isC hC hnC (.ref a :: As)
  have hPc := kSubP hP isC hC
  exact va_runVN ⟨hx, hb, hml, hown, ht⟩ (hM H.size) ⟨va_cnB As.length ht (kGood hcode) rfl hrm.1 hrm.2 (hN.1 _ hlink) (ht _ hini) hd hR, ht _ hinst, ht _ hsel⟩ ⟨hp.1, va_recv hK hPc hci hrec, hp.2⟩ rfl rfl hls hst (lv_room hrest) hdg hf
theorem kRS (hx : p.tables.exec = Jvm.exec) (hb : c.code = cc) (hml : c.maxLocals = nL) (hown : s.vm.findClass own = some m.cls) (ht : ∀ w ∈ kTb, w.before args s = true) (hN : kN s) (hK : va_K D kCl tys s) (hP : va_P D kCl ws H) (hD : va_D A0 ws)
    (hM : kM l y b n ret rm D tys As wc Qf mc ms) (isC : List Nat) (hC : isC.map (fun i => ws[i]?) = wc.map some) (hnC : va_nd isC = true)
    (hlink : Cond.methodLink own index y ∈ kTb) (hstat : Cond.static y ∈ kTb) (hini : Cond.initialized y.cls ∈ kTb) (hcode : Cond.code y b n ret ∈ kTb)
    (hd : y.cls ≠ "java/lang/invoke/MethodHandle" ∧ y.cls ≠ "java/lang/invoke/VarHandle" ∧ (parseMethodDescriptor y.desc).map (fun d => d.parameters.length) = some As.length) (hR : rm.frames + 1 ≤ R.frames ∧ 8 + (n + 11) + rm.locals ≤ R.locals) (hrm : rm.cells = mc ∧ rm.slots = ms)
    (hls : ls.size = nL) (hst : st0 = As.reverse ++ rest) (hrest : (rest.map fun v => v.category).sum ≤ 8) (hdg : decode cc pc = .ok (.invokestatic index, 3)) (hf : cells + mc ≤ R.cells ∧ slots + ms ≤ R.slots) :
    va_Run p l e R s m args below meth c H locs cells slots mc ms (F0 m pc ls st0) rest (Qf (va_A wc H.size) As.toArray) (va_A wc H.size) :=
  va_runS ⟨hx, hb, hml, hown, ht⟩ (hM H.size) ⟨callB_of As.length ht (kGood hcode) rfl hrm.1 hrm.2 (ht _ hini) (ht _ hlink) hd hR, ht _ hstat⟩ (kPreS hK hN hP hD isC hC hnC As) rfl rfl hls hst (lv_room hrest) hdg hf
theorem kRSN {host : String} (hx : p.tables.exec = Jvm.exec) (hb : c.code = cc) (hml : c.maxLocals = nL) (hown : s.vm.findClass own = some m.cls) (ht : ∀ w ∈ kTb, w.before args s = true) (hN : kN s) (hK : va_K D kCl tys s) (hP : va_P D kCl ws H) (hD : va_D A0 ws)
    (hM : kM l y b n ret rm D tys As wc Qf mc ms) (isC : List Nat) (hC : isC.map (fun i => ws[i]?) = wc.map some) (hnC : va_nd isC = true)
    (hlink : Cond.methodLinkNest own index y host ∈ kNest) (hstat : Cond.static y ∈ kTb) (hini : Cond.initialized y.cls ∈ kTb) (hcode : Cond.code y b n ret ∈ kTb)
    (hd : y.cls ≠ "java/lang/invoke/MethodHandle" ∧ y.cls ≠ "java/lang/invoke/VarHandle" ∧ (parseMethodDescriptor y.desc).map (fun d => d.parameters.length) = some As.length) (hR : rm.frames + 1 ≤ R.frames ∧ 8 + (n + 11) + rm.locals ≤ R.locals) (hrm : rm.cells = mc ∧ rm.slots = ms)
    (hls : ls.size = nL) (hst : st0 = As.reverse ++ rest) (hrest : (rest.map fun v => v.category).sum ≤ 8) (hdg : decode cc pc = .ok (.invokestatic index, 3)) (hf : cells + mc ≤ R.cells ∧ slots + ms ≤ R.slots) :
    va_Run p l e R s m args below meth c H locs cells slots mc ms (F0 m pc ls st0) rest (Qf (va_A wc H.size) As.toArray) (va_A wc H.size) :=
  va_runSN ⟨hx, hb, hml, hown, ht⟩ (hM H.size) ⟨va_cnB As.length ht (kGood hcode) rfl hrm.1 hrm.2 (hN.1 _ hlink) (ht _ hini) hd hR, ht _ hstat, trivial⟩ (kPreS hK hN hP hD isC hC hnC As) rfl rfl hls hst (lv_room hrest) hdg hf
theorem kRI {a : Nat} (hx : p.tables.exec = Jvm.exec) (hb : c.code = cc) (hml : c.maxLocals = nL) (hown : s.vm.findClass own = some m.cls) (ht : ∀ w ∈ kTb, w.before args s = true) (hN : kN s) (hK : va_K D kCl tys s) (hP : va_P D kCl ws H) (hD : va_D A0 ws)
    (hM : kM l y b n none rm D tys (.ref a :: As) wc Qf mc ms) (isC : List Nat) (hC : isC.map (fun i => ws[i]?) = wc.map some) (hnC : va_nd isC = true)
    (hlink : Cond.methodLink own index y ∈ kTb) (hinst : Cond.instanceMethod y ∈ kTb) (hini : Cond.initialized y.cls ∈ kTb) (hcode : Cond.code y b n none ∈ kTb) (hyn : y.name = "<init>")
    (hd : y.cls ≠ "java/lang/invoke/MethodHandle" ∧ y.cls ≠ "java/lang/invoke/VarHandle" ∧ (parseMethodDescriptor y.desc).map (fun d => d.parameters.length) = some As.length) (hR : rm.frames + 1 ≤ R.frames ∧ 8 + (n + 11) + rm.locals ≤ R.locals) (hrm : rm.cells = mc ∧ rm.slots = ms)
    (hls : ls.size = nL) (hst : st0 = As.reverse ++ .ref a :: rest) (hrest : (rest.map fun v => v.category).sum ≤ 8) (hdg : decode cc pc = .ok (.invokespecial index, 3)) (hf : cells + mc ≤ R.cells ∧ slots + ms ≤ R.slots) :
    va_Run p l e R s m args below meth c H locs cells slots mc ms (F0 m pc ls st0) rest (Qf (va_A wc H.size) (Value.ref a :: As).toArray) (va_A wc H.size) :=
  va_runI ⟨hx, hb, hml, hown, ht⟩ (hM H.size) ⟨callB_of As.length ht (kGood hcode) rfl hrm.1 hrm.2 (ht _ hini) (ht _ hlink) hd hR, hyn, ht _ hinst⟩ (kPreS hK hN hP hD isC hC hnC (.ref a :: As)) rfl rfl hls hst (lv_room hrest) hdg hf
theorem kRIN {host : String} {a : Nat} (hx : p.tables.exec = Jvm.exec) (hb : c.code = cc) (hml : c.maxLocals = nL) (hown : s.vm.findClass own = some m.cls) (ht : ∀ w ∈ kTb, w.before args s = true) (hN : kN s) (hK : va_K D kCl tys s) (hP : va_P D kCl ws H) (hD : va_D A0 ws)
    (hM : kM l y b n none rm D tys (.ref a :: As) wc Qf mc ms) (isC : List Nat) (hC : isC.map (fun i => ws[i]?) = wc.map some) (hnC : va_nd isC = true)
    (hlink : Cond.methodLinkNest own index y host ∈ kNest) (hinst : Cond.instanceMethod y ∈ kTb) (hini : Cond.initialized y.cls ∈ kTb) (hcode : Cond.code y b n none ∈ kTb) (hyn : y.name = "<init>")
    (hd : y.cls ≠ "java/lang/invoke/MethodHandle" ∧ y.cls ≠ "java/lang/invoke/VarHandle" ∧ (parseMethodDescriptor y.desc).map (fun d => d.parameters.length) = some As.length) (hR : rm.frames + 1 ≤ R.frames ∧ 8 + (n + 11) + rm.locals ≤ R.locals) (hrm : rm.cells = mc ∧ rm.slots = ms)
    (hls : ls.size = nL) (hst : st0 = As.reverse ++ .ref a :: rest) (hrest : (rest.map fun v => v.category).sum ≤ 8) (hdg : decode cc pc = .ok (.invokespecial index, 3)) (hf : cells + mc ≤ R.cells ∧ slots + ms ≤ R.slots) :
    va_Run p l e R s m args below meth c H locs cells slots mc ms (F0 m pc ls st0) rest (Qf (va_A wc H.size) (Value.ref a :: As).toArray) (va_A wc H.size) :=
  va_runIN ⟨hx, hb, hml, hown, ht⟩ (hM H.size) ⟨va_cnB As.length ht (kGood hcode) rfl hrm.1 hrm.2 (hN.1 _ hlink) (ht _ hini) hd hR, hyn, ht _ hinst⟩ (kPreS hK hN hP hD isC hC hnC (.ref a :: As)) rfl rfl hls hst (lv_room hrest) hdg hf
end KC
section KJ
variable {D : va_G} {A0 : Nat → Prop} {ws wc wr w1 ws1 : va_W} {H H1 : Heap}
/-- behind a call: the world in the order that is wanted -/
theorem kJoin (hP : va_P D kCl ws H) (hD : va_D A0 ws) (isC isR isB : List Nat) (hC : isC.map (fun i => ws[i]?) = wc.map some) (hR : isR.map (fun i => ws[i]?) = wr.map some) (hn : va_nd isR = true) (hdis : isR.all (fun i => !isC.contains i) = true)
    (hB : isB.map (fun i => (wr ++ w1)[i]?) = ws1.map some) (hnB : va_nd isB = true) (hk : ∀ q : Nat, q < H.size → ¬ va_A wc H.size q → H1[q]? = H[q]?) (hF : ∀ q, va_A wc H.size q → A0 q) (hP1 : va_P D kCl w1 H1) (hD1 : va_D (va_A wc H.size) w1) : va_P D kCl ws1 H1 ∧ va_D A0 ws1 := by
  have hd2 : ∀ i ∈ isR, i ∉ isC := fun i hi h => by
    have h3 := List.all_eq_true.mp hdis i hi
    rw [List.contains_iff_mem.mpr h] at h3
    cases h3
  obtain ⟨h1, h2⟩ := va_join hP hD isC isR hC hR hn hd2 hk hF hP1 hD1
  exact ⟨kSubP h1 isB hB, h2.sub isB hnB hB⟩
end KJ
theorem kz01 {v : Int32} (h : v = 0 ∨ v = 1) : narrow .boolean (.int v) = .int v := by
  rcases h with rfl | rfl <;> rfl
theorem kNewI {p : Program} {l : Launch} {e : Env} {R : Room} {s : State} {m : MethodId} {args : Array Value} {below : List Frame} {meth : Method} {c : Code} {H H0 : Heap} {locs : List Loc} {cells slots pc : Nat} {Q : State → Prop} {cc : ByteArray} {D : va_G} {cI cJ cZ cR : ClassId} {ws : va_W} {A : Nat → Prop} {ls : Array Slot} {rest : List Value} {n : Int32} {N : Nat}
    (hx : p.tables.exec = Jvm.exec) (hb : c.code = cc) (harr : (Cond.arrayClass .int).before args s = true) (hK : va_K D kCl (kTy cI cJ cZ cR) s) (hP : va_P D kCl ws H) (hD : va_D A ws) (hS : va_S A H0 H locs) (hA : ∀ q : Nat, H0.size ≤ q → A q) (hn : ¬ n < 0) (hN : n.toNatClampNeg = N) (hbytes : N * 4 ≤ 536870912) (hcells : cells + 1 ≤ R.cells) (hslots : slots + N ≤ R.slots) (hdg : decode cc pc = .ok (.newarray .int, 2))
    (kk : ∀ (q : Nat) (H1 : Heap), va_P D kCl (ws ++ [aI cI q N (fun _ => 0)]) H1 → va_D A (ws ++ [aI cI q N (fun _ => 0)]) → va_S A H0 H1 locs → W p l e R s m args below meth c H1 locs (cells + 1) (slots + N) Q (F0 m (pc + 2) ls (.ref q :: rest))) : W p l e R s m args below meth c H locs cells slots Q (F0 m pc ls (.int n :: rest)) := by
  refine va_newa (atype := .int) (a0 := (N, .inl (fun _ => 0))) hx hb harr rfl hK hP hD hS hA (fun _ => rfl) hn hN hbytes hcells hslots hdg (fun q cA H1 hK' hP' hD' hS' => ?_)
  have e1 := (hK'.2 4 _ rfl).2
  have e2 := (hK.2 0 _ rfl).2
  have e3 : cA = cI := Option.some.inj (e1.symm.trans e2)
  subst e3
  exact kk q H1 hP' hD' hS'
theorem kNewZ {p : Program} {l : Launch} {e : Env} {R : Room} {s : State} {m : MethodId} {args : Array Value} {below : List Frame} {meth : Method} {c : Code} {H H0 : Heap} {locs : List Loc} {cells slots pc : Nat} {Q : State → Prop} {cc : ByteArray} {D : va_G} {cI cJ cZ cR : ClassId} {ws : va_W} {A : Nat → Prop} {ls : Array Slot} {rest : List Value} {n : Int32} {N : Nat}
    (hx : p.tables.exec = Jvm.exec) (hb : c.code = cc) (harr : (Cond.arrayClass .boolean).before args s = true) (hK : va_K D kCl (kTy cI cJ cZ cR) s) (hP : va_P D kCl ws H) (hD : va_D A ws) (hS : va_S A H0 H locs) (hA : ∀ q : Nat, H0.size ≤ q → A q) (hn : ¬ n < 0) (hN : n.toNatClampNeg = N) (hbytes : N * 1 ≤ 536870912) (hcells : cells + 1 ≤ R.cells) (hslots : slots + N ≤ R.slots) (hdg : decode cc pc = .ok (.newarray .boolean, 2))
    (kk : ∀ (q : Nat) (H1 : Heap), va_P D kCl (ws ++ [aI cZ q N (fun _ => 0)]) H1 → va_D A (ws ++ [aI cZ q N (fun _ => 0)]) → va_S A H0 H1 locs → W p l e R s m args below meth c H1 locs (cells + 1) (slots + N) Q (F0 m (pc + 2) ls (.ref q :: rest))) : W p l e R s m args below meth c H locs cells slots Q (F0 m pc ls (.int n :: rest)) := by
  refine va_newa (atype := .boolean) (a0 := (N, .inl (fun _ => 0))) hx hb harr rfl hK hP hD hS hA (fun _ => rfl) hn hN hbytes hcells hslots hdg (fun q cA H1 hK' hP' hD' hS' => ?_)
  have e1 := (hK'.2 4 _ rfl).2
  have e2 := (hK.2 2 _ rfl).2
  have e3 : cA = cZ := Option.some.inj (e1.symm.trans e2)
  subst e3
  exact kk q H1 hP' hD' hS'
theorem kNewJ {p : Program} {l : Launch} {e : Env} {R : Room} {s : State} {m : MethodId} {args : Array Value} {below : List Frame} {meth : Method} {c : Code} {H H0 : Heap} {locs : List Loc} {cells slots pc : Nat} {Q : State → Prop} {cc : ByteArray} {D : va_G} {cI cJ cZ cR : ClassId} {ws : va_W} {A : Nat → Prop} {ls : Array Slot} {rest : List Value} {n : Int32} {N : Nat}
    (hx : p.tables.exec = Jvm.exec) (hb : c.code = cc) (harr : (Cond.arrayClass .long).before args s = true) (hK : va_K D kCl (kTy cI cJ cZ cR) s) (hP : va_P D kCl ws H) (hD : va_D A ws) (hS : va_S A H0 H locs) (hA : ∀ q : Nat, H0.size ≤ q → A q) (hn : ¬ n < 0) (hN : n.toNatClampNeg = N) (hbytes : N * 8 ≤ 536870912) (hcells : cells + 1 ≤ R.cells) (hslots : slots + N ≤ R.slots) (hdg : decode cc pc = .ok (.newarray .long, 2))
    (kk : ∀ (q : Nat) (H1 : Heap), va_P D kCl (ws ++ [aJ cJ q N (fun _ => 0)]) H1 → va_D A (ws ++ [aJ cJ q N (fun _ => 0)]) → va_S A H0 H1 locs → W p l e R s m args below meth c H1 locs (cells + 1) (slots + N) Q (F0 m (pc + 2) ls (.ref q :: rest))) : W p l e R s m args below meth c H locs cells slots Q (F0 m pc ls (.int n :: rest)) := by
  refine va_newa (atype := .long) (a0 := (N, .inr (.inl (fun _ => 0)))) hx hb harr rfl hK hP hD hS hA (fun _ => rfl) hn hN hbytes hcells hslots hdg (fun q cA H1 hK' hP' hD' hS' => ?_)
  have e1 := (hK'.2 4 _ rfl).2
  have e2 := (hK.2 1 _ rfl).2
  have e3 : cA = cJ := Option.some.inj (e1.symm.trans e2)
  subst e3
  exact kk q H1 hP' hD' hS'
theorem kNewQ {p : Program} {l : Launch} {e : Env} {R : Room} {s : State} {m : MethodId} {args : Array Value} {below : List Frame} {meth : Method} {c : Code} {H H0 : Heap} {locs : List Loc} {cells slots pc index : Nat} {Q : State → Prop} {cc : ByteArray} {own : String} {D : va_G} {cI cJ cZ cR : ClassId} {ws : va_W} {A : Nat → Prop} {ls : Array Slot} {rest : List Value} {n : Int32} {N : Nat}
    (hx : p.tables.exec = Jvm.exec) (hb : c.code = cc) (hown : s.vm.findClass own = some m.cls) (hcl : (Cond.classLink own index "LiftExchange$Ride").before args s = true) (hN : kN s) (hK : va_K D kCl (kTy cI cJ cZ cR) s) (hP : va_P D kCl ws H) (hD : va_D A ws) (hS : va_S A H0 H locs) (hA : ∀ q : Nat, H0.size ≤ q → A q) (hn : ¬ n < 0) (hN2 : n.toNatClampNeg = N) (hbytes : N * 4 ≤ 536870912) (hcells : cells + 1 ≤ R.cells) (hslots : slots + N ≤ R.slots) (hdg : decode cc pc = .ok (.anewarray index, 3))
    (kk : ∀ (q : Nat) (H1 : Heap), va_P D kCl (ws ++ [aQ cR q N (fun _ => none)]) H1 → va_D A (ws ++ [aQ cR q N (fun _ => none)]) → va_S A H0 H1 locs → W p l e R s m args below meth c H1 locs (cells + 1) (slots + N) Q (F0 m (pc + 3) ls (.ref q :: rest))) : W p l e R s m args below meth c H locs cells slots Q (F0 m pc ls (.int n :: rest)) := by
  refine va_newq hx hb hown hcl hN.2 hK hP hD hS hA hn hN2 hbytes hcells hslots hdg (fun q cA H1 hK' hP' hD' hS' => ?_)
  obtain ⟨kA, comp, -, -, -, e1⟩ := (hK'.2 4 _ rfl).2
  obtain ⟨kA2, comp2, -, -, -, e2⟩ := (hK.2 3 _ rfl).2
  have e3 : cA = cR := Option.some.inj (e1.symm.trans e2)
  subst e3
  exact kk q H1 hP' hD' hS'
