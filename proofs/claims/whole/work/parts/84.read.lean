/-! PURE ROWS: the house that a text tells -/
def figN (c : Nat → Nat) (N lo hi p : Nat) : Option Nat := if p < N ∧ 48 + lo ≤ c p ∧ c p ≤ 48 + hi then some (c p - 48) else none
theorem figN_some {c : Nat → Nat} {N lo hi p f : Nat} (h : figN c N lo hi p = some f) : p < N ∧ lo ≤ f ∧ f ≤ hi ∧ c p = 48 + f := by
  unfold figN at h
  by_cases q : p < N ∧ 48 + lo ≤ c p ∧ c p ≤ 48 + hi
  · rw [if_pos q] at h
    have := Option.some.inj h
    omega
  · rw [if_neg q] at h; exact nomatch h
theorem figN_none {c : Nat → Nat} {N lo hi p : Nat} (h : figN c N lo hi p = none) : ¬ (p < N ∧ 48 + lo ≤ c p ∧ c p ≤ 48 + hi) := by
  intro q
  unfold figN at h
  rw [if_pos q] at h; exact nomatch h
/-- one part: kind (0: a fault), place behind it (or of the fault), a floor, a want -/
abbrev PQ : Type := Nat × Nat × Nat × Nat
def figP (c : Nat → Nat) (N n p : Nat) : Option Nat := figN c N 0 (n - 1) p
def partI (c : Nat → Nat) (N n p : Nat) : PQ := match figP c N n (p + 1) with
  | none => (0, p + 1, 0, 0)
  | some v => (1, p + 2, 0, v)
def partA (c : Nat → Nat) (N n p : Nat) : PQ := match figP c N n (p + 1) with
  | none => (0, p + 1, 0, 0)
  | some f => match figP c N n (p + 2) with
    | none => (0, p + 2, 0, 0)
    | some v => if v = f then (0, p + 2, 0, 0) else (2, p + 3, f, v)
def partS (c : Nat → Nat) (N n p : Nat) : PQ := match figP c N n (p + 1) with
  | none => (0, p + 1, 0, 0)
  | some f => (3, p + 2, f, 0)
def partF (c : Nat → Nat) (N n p r t : Nat) : PQ := if c p = 73 then (if r < 4 then partI c N n p else (0, p, 0, 0)) else if c p = 65 then (if r < 4 then partA c N n p else (0, p, 0, 0)) else if c p = 83 then (if t < 2 then partS c N n p else (0, p, 0, 0)) else if c p = 84 then (if t < 2 then (4, p + 1, 0, 0) else (0, p, 0, 0)) else (0, p, 0, 0)
/-- what is read so far: riders, strangers, wants, where they stand, who is where -/
abbrev PD : Type := Nat × Nat × (Nat → Nat) × (Nat → Nat) × List Nat
def nxtD (q : PQ) (D : PD) : PD :=
  if q.1 = 1 then (D.1 + 1, D.2.1, setN D.2.2.1 D.1 q.2.2.2, setN D.2.2.2.1 D.1 9, putS D.2.2.2.2 D.1 6)
  else if q.1 = 2 then (D.1 + 1, D.2.1, setN D.2.2.1 D.1 q.2.2.2, setN D.2.2.2.1 D.1 q.2.2.1, putS D.2.2.2.2 D.1 q.2.2.1)
  else if q.1 = 3 then (D.1, D.2.1 + 1, D.2.2.1, D.2.2.2.1, putS D.2.2.2.2 (4 + D.2.1) q.2.2.1)
  else (D.1, D.2.1 + 1, D.2.2.1, D.2.2.2.1, putS D.2.2.2.2 (4 + D.2.1) 6)
def runF (c : Nat → Nat) (N n : Nat) : Nat → Nat → PD → Option Nat × PD
  | 0, _, D => (none, D)
  | k + 1, p, D => if N ≤ p then (none, D) else if (partF c N n p D.1 D.2.1).1 = 0 then (some (partF c N n p D.1 D.2.1).2.1, D) else runF c N n k (partF c N n p D.1 D.2.1).2.1 (nxtD (partF c N n p D.1 D.2.1) D)
def OkD (n : Nat) (D : PD) : Prop := HouseOk n D.1 D.2.1 D.2.2.1 D.2.2.2.1 ∧ StOk n D.1 D.2.2.2.1 D.2.2.2.2 ∧ StrOk D.2.1 D.2.2.2.2
def ClsD (n : Nat) (D : PD) (lst lr lt : Int32) (lw ls lwa lsa : Nat → Int32) : Prop := lst = nI (encS D.2.2.2.2) ∧ HouseL n D.1 D.2.1 D.2.2.1 D.2.2.2.1 (nI n) lr lt lw ls lwa lsa
def RefD (n : Nat) (D : PD) (rr rs : Int32) (ra rst rw_ : Nat → Int32) : Prop := rr = nI D.1 ∧ rs = nI D.2.1 ∧ (∀ k, k < 6 → ra k = nI (pz D.2.2.2.2 k)) ∧ (∀ k, k < D.1 → rw_ k = nI (D.2.2.1 k)) ∧ ∀ k, k < D.1 → D.2.2.2.1 k < n → rst k = nI (D.2.2.2.1 k)
/-! a rider more, a stranger more -/
section ADD
variable {n r t : Nat} {w b : Nat → Nat} {s : List Nat}
theorem ok_rider (h : OkD n (r, t, w, b, s)) (hr : r < 4) {v g u : Nat} (hv : v < n) (hg : (g < n ∧ u = g) ∨ (g = 9 ∧ u = 6)) : OkD n (r + 1, t, setN w r v, setN b r g, putS s r u) := by
  obtain ⟨⟨hn2, hn6, -, ht, hwb⟩, ⟨hl, h1, h2, h3⟩, hT⟩ := h
  refine ⟨⟨hn2, hn6, hr, ht, fun k hk => ?_⟩, ⟨rfl, fun k hk hkr => ?_, fun k hk hkr => ?_, fun k hk hk6 => ?_⟩, fun j hj => ?_⟩
  · by_cases q : k = r
    · subst q
      show setN w k v k < n ∧ (setN b k g k < n ∨ setN b k g k = 9)
      rw [setN_eq, setN_eq]
      exact ⟨hv, hg.imp And.left And.left⟩
    · show setN w r v k < n ∧ (setN b r g k < n ∨ setN b r g k = 9)
      rw [setN_ne _ _ q, setN_ne _ _ q]
      have hk : k < r + 1 := hk
      exact hwb k (by show k < r; omega)
  · have hkr : k < r + 1 := hkr
    show (pz (putS s r u) k = setN b r g k ∧ setN b r g k < n) ∨ pz (putS s r u) k = 6 ∨ pz (putS s r u) k = 7
    rw [putS_pz _ _ _ _ (by omega)]
    by_cases q : k = r
    · subst q
      rw [if_pos rfl, setN_eq]
      rcases hg with ⟨a, rfl⟩ | ⟨-, rfl⟩
      · exact Or.inl ⟨rfl, a⟩
      · exact Or.inr (Or.inl rfl)
    · rw [if_neg q, setN_ne _ _ q]; exact h1 k hk (by show k < r; omega)
  · have hkr : r + 1 ≤ k := hkr
    show pz (putS s r u) k = 8
    rw [putS_pz _ _ _ _ (by omega), if_neg (by omega)]; exact h2 k hk (by show r ≤ k; omega)
  · show pz (putS s r u) k < n ∨ pz (putS s r u) k = 6 ∨ pz (putS s r u) k = 8
    rw [putS_pz _ _ _ _ hk6, if_neg (by omega)]; exact h3 k hk hk6
  · show pz (putS s r u) (4 + j) = 8 ↔ t ≤ j
    rw [putS_pz _ _ _ _ (by omega), if_neg (by omega)]; exact hT j hj
theorem ok_str (h : OkD n (r, t, w, b, s)) (ht : t < 2) {u : Nat} (hu : u < n ∨ u = 6) : OkD n (r, t + 1, w, b, putS s (4 + t) u) := by
  obtain ⟨⟨hn2, hn6, hr, -, hwb⟩, ⟨hl, h1, h2, h3⟩, hT⟩ := h
  have hr : r ≤ 4 := hr
  refine ⟨⟨hn2, hn6, hr, ht, hwb⟩, ⟨rfl, fun k hk hkr => ?_, fun k hk hkr => ?_, fun k hk hk6 => ?_⟩, fun j hj => ?_⟩
  · show (pz (putS s (4 + t) u) k = b k ∧ b k < n) ∨ pz (putS s (4 + t) u) k = 6 ∨ pz (putS s (4 + t) u) k = 7
    rw [putS_pz _ _ _ _ (by omega), if_neg (by omega)]; exact h1 k hk hkr
  · show pz (putS s (4 + t) u) k = 8
    rw [putS_pz _ _ _ _ (by omega), if_neg (by omega)]; exact h2 k hk hkr
  · show pz (putS s (4 + t) u) k < n ∨ pz (putS s (4 + t) u) k = 6 ∨ pz (putS s (4 + t) u) k = 8
    rw [putS_pz _ _ _ _ hk6]
    split
    · exact hu.imp id Or.inl
    · exact h3 k hk hk6
  · show pz (putS s (4 + t) u) (4 + j) = 8 ↔ t + 1 ≤ j
    rw [putS_pz _ _ _ _ (by omega)]
    have hj' := hT j hj
    have hj' : pz s (4 + j) = 8 ↔ t ≤ j := hj'
    have hn6 : n ≤ 6 := hn6
    by_cases q : j = t
    · subst q
      rw [if_pos rfl]
      rcases hu with h | h <;> omega
    · rw [if_neg (by omega), hj']; omega
theorem enc_stand {k v : Nat} (hk : k < 4) (h1 : pz s k = 8) (hv : v < 6) : encS (putS s k v) = encS s := by
  have hb : ∀ u, u = 6 ∨ u = 7 → bits4 (fun i => pz (putS s k v) i == u) = bits4 (fun i => pz s i == u) := by
    intro u hu
    apply tb_ext (n := 4) (bits4_lt _) (bits4_lt _)
    intro i hi
    rw [bits4_tb, bits4_tb, putS_pz _ _ _ _ (by omega)]
    by_cases q : i = k
    · subst q
      rw [if_pos rfl, show (v == u) = false from beq_false_of_ne (by omega), show (pz s i == u) = false from beq_false_of_ne (by omega)]
    · rw [if_neg q]
  rw [encS_E, encS_E, hb 6 (Or.inl rfl), hb 7 (Or.inr rfl), putS_pz _ _ _ _ (by decide), putS_pz _ _ _ _ (by decide), if_neg (by omega), if_neg (by omega)]
theorem inside_put (hz : PzOk s) {k : Nat} (hk : k < 4) (h1 : pz s k = 8) {P : Int32 → Prop} (hP : P (nI (encS (putS s k 6)))) : wp_X8_withInside (nI (encS s)) (nI k) P := by
  unfold wp_X8_withInside
  obtain ⟨ha, hd, hp, hq⟩ := encS_parts hz
  have hpk : 2 ^ k < 16 := Nat.lt_of_lt_of_le (Nat.pow_lt_pow_right (by decide) hk) (by decide)
  rw [sh1 k (by omega), fa_or]
  have e : encS s ||| 2 ^ k = encS (putS s k 6) := by
    have r1 := rid4 (R := bits4 (fun k => pz s k == 7) + 16 * (plc (pz s 4) + 8 * plc (pz s 5))) ha (show 0 < 16 by decide) hpk (show 0 < 16 by decide)
    rw [andn_zero, andn_zero, Nat.zero_mul, Nat.or_zero, Nat.or_zero] at r1
    have e6 : bits4 (fun i => pz (putS s k 6) i == 6) = bits4 (fun i => pz s i == 6) ||| 2 ^ k := by
      apply tb_ext (n := 4) (bits4_lt _) (Nat.or_lt_two_pow (n := 4) ha hpk)
      intro i hi
      rw [bits4_tb, Nat.testBit_or, bits4_tb, Nat.testBit_two_pow, putS_pz _ _ _ _ (by omega)]
      by_cases q : i = k
      · subst q; simp [hi]
      · rw [if_neg q]
        have : ¬ k = i := fun z => q z.symm
        simp [this]
    have e7 : bits4 (fun i => pz (putS s k 6) i == 7) = bits4 (fun i => pz s i == 7) := by
      apply tb_ext (n := 4) (bits4_lt _) (bits4_lt _)
      intro i hi
      rw [bits4_tb, bits4_tb, putS_pz _ _ _ _ (by omega)]
      by_cases q : i = k
      · subst q
        rw [if_pos rfl, show (pz s i == 7) = false from beq_false_of_ne (by omega)]; rfl
      · rw [if_neg q]
    rw [encS_E, encS_E, e6, e7, putS_pz _ _ _ _ (by decide), putS_pz _ _ _ _ (by decide), if_neg (by omega), if_neg (by omega)]
    unfold E4
    have l : bits4 (fun k => pz s k == 6) + 16 * bits4 (fun k => pz s k == 7) + 256 * plc (pz s 4) + 2048 * plc (pz s 5) = bits4 (fun k => pz s k == 6) + 16 * (bits4 (fun k => pz s k == 7) + 16 * (plc (pz s 4) + 8 * plc (pz s 5))) := by omega
    rw [l, r1]
    omega
  rw [e]; exact hP
theorem ws_in (hz : PzOk s) {j : Nat} (hj : j < 2) {P : Int32 → Prop} (hP : P (nI (encS (putS s (4 + j) 6)))) : wp_X8_withStrangers (nI (encS s)) (nI (2 ^ (4 + j))) (nI 7) P := by
  obtain ⟨ha, hd, hp, hq⟩ := encS_parts hz
  have hb : ∀ v, bits4 (fun k => pz (putS s (4 + j) 6) k == v) = bits4 (fun k => pz s k == v) := by
    intro v
    apply tb_ext (n := 4) (bits4_lt _) (bits4_lt _)
    intro k hk
    rw [bits4_tb, bits4_tb, putS_pz _ _ _ _ (by omega), if_neg (by omega)]
  refine ws_spec ha hd hp hq (by rcases (show j = 0 ∨ j = 1 by omega) with rfl | rfl <;> decide) (by decide) ?_
  have e : E4 (bits4 fun k => pz s k == 6) (bits4 fun k => pz s k == 7) (if (2 ^ (4 + j)).testBit 4 = true then 7 else plc (pz s 4)) (if (2 ^ (4 + j)).testBit 5 = true then 7 else plc (pz s 5)) = encS (putS s (4 + j) 6) := by
    rw [encS_E, hb, hb, putS_pz _ _ _ _ (by decide), putS_pz _ _ _ _ (by decide)]
    rcases (show j = 0 ∨ j = 1 by omega) with rfl | rfl
    · rw [if_pos (by decide), if_neg (by decide), if_pos (by decide), if_neg (by decide)]; rfl
    · rw [if_neg (by decide), if_pos (by decide), if_neg (by decide), if_pos (by decide)]; rfl
  rw [e]; exact hP
/-- the house's rows with a rider more -/
theorem bits_more {F : Nat → Nat} {v f : Nat} (hr : r < 4) : bits4 (fun k => decide (k < r + 1) && setN F r v k == f) = bits4 (fun k => decide (k < r) && F k == f) ||| (if v = f then 2 ^ r else 0) := by
  have hpk : 2 ^ r < 16 := Nat.lt_of_lt_of_le (Nat.pow_lt_pow_right (by decide) hr) (by decide)
  have hlt : (if v = f then 2 ^ r else 0) < 16 := by split <;> omega
  apply tb_ext (n := 4) (bits4_lt _) (Nat.or_lt_two_pow (n := 4) (bits4_lt _) hlt)
  intro i hi
  rw [Nat.testBit_or, bits4_tb, bits4_tb]
  by_cases q : i = r
  · subst q
    rw [setN_eq]
    by_cases c : v = f
    · rw [if_pos c, Nat.testBit_two_pow]; simp [c, hi]
    · rw [if_neg c, show (v == f) = false from beq_false_of_ne c]; simp
  · rw [setN_ne _ _ q]
    have e : decide (i < r + 1) = decide (i < r) := by
      rw [decide_eq_decide]; omega
    rw [e]
    have z : (if v = f then 2 ^ r else 0).testBit i = false := by
      split
      · rw [Nat.testBit_two_pow]; simpa using fun z => q z.symm
      · exact Nat.zero_testBit i
    rw [z, Bool.or_false]
theorem addR_spec {lr : Int32} {lw ls lwa lsa : Nat → Int32} {lt : Int32} (hL : HouseL n r t w b (nI n) lr lt lw ls lwa lsa) (hn6 : n ≤ 6) (hr : r < 4) {v g : Nat} {p0 : Int32} (hv : v < n) (hg : (g < n ∧ p0 = nI g) ∨ (g = 9 ∧ p0 = -9)) {P : Int32 → (Nat → Int32) → (Nat → Int32) → (Nat → Int32) → (Nat → Int32) → Prop}
    (hP : ∀ lw2 lwa2 ls2 lsa2, HouseL n (r + 1) t (setN w r v) (setN b r g) (nI n) (nI (r + 1)) lt lw2 ls2 lwa2 lsa2 → P (nI (r + 1)) lw2 lwa2 ls2 lsa2) : wp_X3_addRider p0 (nI v) lr lw lwa ls lsa P := by
  obtain ⟨-, rfl, l3, l4, l5, l6, l7, l8⟩ := hL
  unfold wp_X3_addRider
  refine put_in (by omega) (by decide) (at_in (n := 6) (by omega) (by decide) (put_in (by omega) (by decide) (put_in (by omega) (by decide) ?_)))
  rw [sh1 r (by omega), l7 v (by omega), fa_or]
  have hw2 : ∀ k, k < r + 1 → upd lw r (nI v) k = nI (setN w r v k) := by
    intro k hk
    by_cases q : k = r
    · subst q; rw [pk_us, setN_eq]
    · rw [pk_un q, setN_ne _ _ q]; exact l4 k (by omega)
  have hwa2 : ∀ f, f < 6 → upd lwa v (nI (bits4 (fun k => decide (k < r) && w k == v) ||| 2 ^ r)) f = nI (bits4 fun k => decide (k < r + 1) && setN w r v k == f) := by
    intro f hf
    rw [bits_more hr]
    by_cases q : f = v
    · subst q; rw [pk_us, if_pos rfl]
    · rw [pk_un q, if_neg (fun z => q z.symm), Nat.or_zero]; exact l7 f hf
  rcases hg with ⟨hgn, rfl⟩ | ⟨rfl, rfl⟩
  · refine at_in (n := 6) (by omega) (by decide) (put_in (by omega) (by decide) (fun x7 e7 => ?_))
    rw [nI_1] at e7
    subst e7
    refine hP _ _ _ _ ⟨rfl, rfl, l3, hw2, fun k hk hb => ?_, fun k hk hb => ?_, hwa2, fun f hf => ?_⟩
    · by_cases q : k = r
      · subst q; rw [pk_us, setN_eq]
      · rw [setN_ne _ _ q] at hb ⊢
        rw [pk_un q]; exact l5 k (by omega) hb
    · by_cases q : k = r
      · subst q; rw [setN_eq] at hb; exact absurd hgn hb
      · rw [setN_ne _ _ q] at hb
        rw [pk_un q]; exact l6 k (by omega) hb
    · rw [bits_more hr, l8 g (by omega), fa_or]
      by_cases q : f = g
      · subst q; rw [pk_us, if_pos rfl]
      · rw [pk_un q, if_neg (fun z => q z.symm), Nat.or_zero]; exact l8 f hf
  · refine at_out (by decide) (put_out (by decide) (fun x7 e7 => ?_))
    rw [nI_1] at e7
    subst e7
    refine hP _ _ _ _ ⟨rfl, rfl, l3, hw2, fun k hk hb => ?_, fun k hk hb => ?_, hwa2, fun f hf => ?_⟩
    · by_cases q : k = r
      · subst q; rw [setN_eq] at hb; omega
      · rw [setN_ne _ _ q] at hb ⊢
        rw [pk_un q]; exact l5 k (by omega) hb
    · by_cases q : k = r
      · subst q; rw [pk_us]
      · rw [setN_ne _ _ q] at hb
        rw [pk_un q]; exact l6 k (by omega) hb
    · rw [bits_more hr, if_neg (by omega), Nat.or_zero]; exact l8 f hf
end ADD
/-! the class's figures and parts -/
section TEXT
variable {c : Nat → Nat} {N : Nat} {fb : Nat → Int32}
def TxtOk (c : Nat → Nat) (N : Nat) (fb : Nat → Int32) : Prop := N ≤ 40 ∧ ∀ i, i < N → c i < 256 ∧ fb i = nI (c i)
theorem byte_spec (hT : TxtOk c N fb) {p : Nat} (hp : p ≤ 100) {P : Int32 → Prop} (h1 : p < N → P (nI (c p))) (h0 : N ≤ p → P (-9)) : wp_X9_byteAt (nI p) (nI N) fb P := by
  have hN := hT.1
  unfold wp_X9_byteAt
  refine pk_le N p (fun q => h0 q) (fun q => at_in (by omega) (by decide) ?_)
  rw [(hT.2 p q).2]
  exact h1 q
theorem sub48 {x : Nat} (hx : x < 256) : (48 ≤ x ∧ nI x - (48 : Int32) = nI (x - 48)) ∨ (x < 48 ∧ nI x - (48 : Int32) < 0) := by
  by_cases q : 48 ≤ x
  · exact Or.inl ⟨q, pk_sub (b := 48) q⟩
  · exact Or.inr ⟨by omega, pk_sneg (b := 48) (by decide) (by omega)⟩
theorem floor_spec (hT : TxtOk c N fb) {n p : Nat} (hn1 : 1 ≤ n) (hn6 : n ≤ 6) (hp : p ≤ 100) {p2 : Int32} {P : Int32 → Int32 → Prop} (h0 : figP c N n p = none → P (-9) (nI p)) (h1 : ∀ f, figP c N n p = some f → nI f = p2 → P (-9) (nI p)) (h2 : ∀ f, figP c N n p = some f → nI f ≠ p2 → P (nI f) (nI (p + 1))) : wp_X4_readFloor p2 (nI p) (nI N) fb (nI n) P := by
  unfold wp_X4_readFloor
  have no : ¬ (p < N ∧ 48 + 0 ≤ c p ∧ c p ≤ 48 + (n - 1)) → P (-9) (nI p) := by
    intro q
    exact h0 (if_neg q)
  refine byte_spec hT hp (fun q x2 e2 => ?_) (fun q x2 e2 => hf_out (Or.inl (by rw [e2]; decide)) (b_no (no (by omega))))
  obtain ⟨hc, -⟩ := hT.2 p q
  rcases sub48 hc with ⟨a1, a2⟩ | ⟨a1, a2⟩
  · rw [a2] at e2
    subst e2
    by_cases ok : c p - 48 < n
    · have e : figP c N n p = some (c p - 48) := if_pos ⟨q, by omega, by omega⟩
      exact hf_in hn6 ok (b_yes ⟨fun z x6 e6 => by rw [e6, nI_1]; exact h2 _ e z, fun z => h1 _ e z⟩)
    · exact hf_out (Or.inr (nI_le (by omega) (by omega))) (b_no (no (by omega)))
  · rw [← e2] at a2
    exact hf_out (Or.inl a2) (b_no (no (by omega)))
theorem figP_lt {n p f : Nat} (hn1 : 1 ≤ n) (h : figP c N n p = some f) : f < n ∧ p < N := by
  obtain ⟨a, -, b, -⟩ := figN_some h
  omega
theorem crider_spec (hT : TxtOk c N fb) {n p : Nat} {D : PD} {lst lr lt : Int32} {lw ls lwa lsa : Nat → Int32} (hO : OkD n D) (hC : ClsD n D lst lr lt lw ls lwa lsa) (hr : D.1 < 4) (hp : p < N) {p2 : Int32} {q : PQ} (hq : (p2 = 0 ∧ q = partI c N n p) ∨ (p2 = 1 ∧ q = partA c N n p))
    {P : Int32 → Int32 → Int32 → Int32 → (Nat → Int32) → (Nat → Int32) → (Nat → Int32) → (Nat → Int32) → Prop} (h0 : q.1 = 0 → P 0 (nI q.2.1) lst lr lw lwa ls lsa) (h1 : ∀ lst2 lr2 lw2 lwa2 ls2 lsa2, q.1 ≠ 0 → ClsD n (nxtD q D) lst2 lr2 lt lw2 ls2 lwa2 lsa2 → P 1 (nI q.2.1) lst2 lr2 lw2 lwa2 ls2 lsa2) :
    wp_X4_readRider p2 (nI p) lst (nI N) fb (nI n) lr lw lwa ls lsa P := by
  obtain ⟨r, t, w, b, s⟩ := D
  obtain ⟨rfl, hL⟩ := hC
  have hO0 := hO
  obtain ⟨⟨hn2, hn6, -, ht, hwb⟩, hS, hSt⟩ := hO
  have hn6 : n ≤ 6 := hn6
  have hn2 : 2 ≤ n := hn2
  have hr : r < 4 := hr
  have hz : PzOk s := hS.pz hn6
  have h8 : pz s r = 8 := hS.2.2.1 r hr (Nat.le_refl r)
  have er : lr = nI r := hL.2.1
  have hN := hT.1
  unfold wp_X4_readRider
  rintro x1 rfl
  rw [nI_1]
  rcases hq with ⟨rfl, rfl⟩ | ⟨rfl, rfl⟩
  · refine ⟨fun _ => ⟨fun _ => floor_spec hT (by omega) hn6 (by omega) (fun e => ?_) (fun f e z => absurd z (nI_n9 f (by have := (figP_lt (by omega) e).1; omega))) (fun f e z => ?_), fun z => absurd rfl z⟩, fun z => absurd rfl z⟩
    · have eq : partI c N n p = (0, p + 1, 0, 0) := by unfold partI; rw [e]
      rw [eq] at h0
      exact ⟨fun z => absurd rfl z, fun _ => h0 rfl⟩
    · have hf := (figP_lt (by omega) e).1
      have eq : partI c N n p = (1, p + 2, 0, f) := by unfold partI; rw [e]
      rw [eq] at h1
      refine ⟨fun _ => ?_, fun q => absurd q z⟩
      unfold wp_X5_addRider
      refine ⟨fun q => absurd rfl q, fun _ => ?_⟩
      rw [er]
      refine inside_put hz hr h8 ?_
      rw [← er]
      refine addR_spec hL hn6 hr hf (g := 9) (Or.inr ⟨rfl, rfl⟩) (fun lw2 lwa2 ls2 lsa2 hL2 => ?_)
      exact h1 _ _ _ _ _ _ (by show (1 : Nat) ≠ 0; decide) ⟨rfl, hL2⟩
  · refine ⟨fun z => absurd z (by decide), fun _ => floor_spec hT (by omega) hn6 (by omega) (fun e => ?_) (fun f e z => absurd z (nI_n9 f (by have := (figP_lt (by omega) e).1; omega))) (fun f e z => ?_)⟩
    · have eq : partA c N n p = (0, p + 1, 0, 0) := by unfold partA; rw [e]
      rw [eq] at h0
      exact ⟨fun z => absurd z (by decide), fun _ => ⟨fun z => absurd rfl z, fun _ => h0 rfl⟩⟩
    · have hf := (figP_lt (by omega) e).1
      refine ⟨fun z => absurd z (by decide), fun _ => ⟨fun _ => ?_, fun q => absurd q z⟩⟩
      refine floor_spec hT (by omega) hn6 (by omega) (fun e2 => ?_) (fun v e2 z2 => ?_) (fun v e2 z2 => ?_)
      · have eq : partA c N n p = (0, p + 2, 0, 0) := by unfold partA; rw [e, e2]
        rw [eq] at h0
        exact ⟨fun z => absurd rfl z, fun _ => h0 rfl⟩
      · have hv := (figP_lt (by omega) e2).1
        have : v = f := (nI_eq (by omega) (by omega)).mp z2
        have eq : partA c N n p = (0, p + 2, 0, 0) := by unfold partA; rw [e, e2]; exact if_pos this
        rw [eq] at h0
        exact ⟨fun z => absurd rfl z, fun _ => h0 rfl⟩
      · have hv := (figP_lt (by omega) e2).1
        have nv : v ≠ f := fun q => z2 (by rw [q])
        have eq : partA c N n p = (2, p + 3, f, v) := by unfold partA; rw [e, e2]; exact if_neg nv
        rw [eq] at h1
        refine ⟨fun _ => ?_, fun q => absurd q (nI_n9 v (by omega))⟩
        unfold wp_X5_addRider
        refine ⟨fun _ => ?_, fun q => absurd q z⟩
        refine addR_spec hL hn6 hr hv (g := f) (Or.inl ⟨hf, rfl⟩) (fun lw2 lwa2 ls2 lsa2 hL2 => ?_)
        refine h1 _ _ _ _ _ _ (by show (2 : Nat) ≠ 0; decide) ⟨?_, hL2⟩
        show nI (encS s) = nI (encS (putS s r f))
        rw [enc_stand hr h8 (by omega)]
theorem cstr_spec (hT : TxtOk c N fb) {n p : Nat} {D : PD} {lst lr lt : Int32} {lw ls lwa lsa : Nat → Int32} (hO : OkD n D) (hC : ClsD n D lst lr lt lw ls lwa lsa) (ht : D.2.1 < 2) (hp : p < N) {p2 : Int32} {q : PQ} (hq : (p2 = 0 ∧ q = (4, p + 1, 0, 0)) ∨ (p2 = 1 ∧ q = partS c N n p))
    {P : Int32 → Int32 → Int32 → Int32 → Prop} (h0 : q.1 = 0 → P 0 (nI q.2.1) lst lt) (h1 : ∀ lst2 lt2, q.1 ≠ 0 → ClsD n (nxtD q D) lst2 lr lt2 lw ls lwa lsa → P 1 (nI q.2.1) lst2 lt2) :
    wp_X4_readStranger p2 (nI p) lst (nI N) fb (nI n) lt P := by
  obtain ⟨r, t, w, b, s⟩ := D
  obtain ⟨rfl, hL⟩ := hC
  obtain ⟨⟨hn2, hn6, hr, -, hwb⟩, hS, hSt⟩ := hO
  have hn6 : n ≤ 6 := hn6
  have hn2 : 2 ≤ n := hn2
  have ht : t < 2 := ht
  have hz : PzOk s := hS.pz hn6
  have hN := hT.1
  obtain ⟨l1, l2, l3, l4, l5, l6, l7, l8⟩ := hL
  have l3 : lt = nI t := l3
  subst l3
  have e4 : (1 : Int32) <<< (((4 : Int32) + nI t) &&& 31) = nI (2 ^ (4 + t)) := by
    rw [show (4 : Int32) + nI t = nI (4 + t) from nI_add 4 t]
    exact sh1 (4 + t) (by omega)
  unfold wp_X4_readStranger
  rintro x1 rfl
  rw [nI_1]
  rcases hq with ⟨rfl, rfl⟩ | ⟨rfl, rfl⟩
  · refine ⟨fun _ => ?_, fun z => absurd rfl z⟩
    unfold wp_X5_addStranger wp_X3_addStranger
    rw [e4]
    show wp_X8_withStrangers _ _ (nI 7) _
    refine ws_in hz ht (fun x e => h1 _ _ (by show (4 : Nat) ≠ 0; decide) ⟨rfl, l1, l2, ?_, l4, l5, l6, l7, l8⟩)
    rw [e, nI_1]; rfl
  · refine ⟨fun z => absurd z (by decide), fun _ => floor_spec hT (by omega) hn6 (by omega) (fun e => ?_) (fun f e z => absurd z (nI_n9 f (by have := (figP_lt (by omega) e).1; omega))) (fun f e z => ?_)⟩
    · have eq : partS c N n p = (0, p + 1, 0, 0) := by unfold partS; rw [e]
      rw [eq] at h0
      exact ⟨fun z => absurd rfl z, fun _ => h0 rfl⟩
    · have hf := (figP_lt (by omega) e).1
      have eq : partS c N n p = (3, p + 2, f, 0) := by unfold partS; rw [e]
      rw [eq] at h1
      refine ⟨fun _ => ?_, fun q => absurd q z⟩
      unfold wp_X5_addStranger wp_X3_addStranger
      rw [e4]
      refine ws_put hz ht (by omega) (fun x e => h1 _ _ (by show (3 : Nat) ≠ 0; decide) ⟨rfl, l1, l2, ?_, l4, l5, l6, l7, l8⟩)
      rw [e, nI_1]; rfl
theorem cpart_spec (hT : TxtOk c N fb) {n p : Nat} {D : PD} {lst lr lt : Int32} {lw ls lwa lsa : Nat → Int32} (hO : OkD n D) (hC : ClsD n D lst lr lt lw ls lwa lsa) (hp : p < N)
    {P : Int32 → Int32 → Int32 → Int32 → Int32 → (Nat → Int32) → (Nat → Int32) → (Nat → Int32) → (Nat → Int32) → Prop} (h0 : (partF c N n p D.1 D.2.1).1 = 0 → ∀ lst2 lr2 lt2 lw2 lwa2 ls2 lsa2, P 0 (nI (partF c N n p D.1 D.2.1).2.1) lst2 lr2 lt2 lw2 lwa2 ls2 lsa2)
    (h1 : ∀ lst2 lr2 lt2 lw2 lwa2 ls2 lsa2, (partF c N n p D.1 D.2.1).1 ≠ 0 → ClsD n (nxtD (partF c N n p D.1 D.2.1) D) lst2 lr2 lt2 lw2 ls2 lwa2 lsa2 → P 1 (nI (partF c N n p D.1 D.2.1).2.1) lst2 lr2 lt2 lw2 lwa2 ls2 lsa2) :
    wp_X4_readPart (nI p) (nI N) fb lst (nI n) lr lt lw lwa ls lsa P := by
  have hN := hT.1
  obtain ⟨hc, -⟩ := hT.2 p hp
  have er : lr = nI D.1 := hC.2.2.1
  have et : lt = nI D.2.1 := hC.2.2.2.1
  have hr4 : D.1 ≤ 4 := hO.1.2.2.1
  have ht2 : D.2.1 ≤ 2 := hO.1.2.2.2.1
  have is : ∀ k, k < 256 → (nI (c p) = nI k ↔ c p = k) := fun k hk => nI_eq (by omega) (by omega)
  have iI := is 73 (by decide)
  have iA := is 65 (by decide)
  have iS := is 83 (by decide)
  have iT := is 84 (by decide)
  unfold wp_X4_readPart
  refine byte_spec hT (by omega) (fun _ => ?_) (fun q => by omega)
  unfold wp_X3_hasRoomForRider wp_X3_hasRoomForStranger
  have no : ∀ {r t : Nat}, partF c N n p D.1 D.2.1 = (0, p, 0, 0) → P 0 (nI p) lst lr lt lw lwa ls lsa := by
    intro r t e
    rw [e] at h0
    exact h0 rfl _ _ _ _ _ _ _
  refine ⟨fun e => ?_, fun e => ?_, fun e => ?_, fun e => ?_, fun n1 n2 n3 n4 => ?_⟩
  · have e : c p = 65 := iA.mp e
    have ep : partF c N n p D.1 D.2.1 = if D.1 < 4 then partA c N n p else (0, p, 0, 0) := by unfold partF; rw [if_neg (by omega), if_pos e]
    rw [er]
    refine pk_le 4 D.1 (fun z => b_no ?_) (fun z => b_yes ?_)
    · rw [← er]; exact no (r := 0) (t := 0) (ep.trans (if_neg (by omega)))
    · rw [← er]
      have ep := ep.trans (if_pos z)
      rw [ep] at h0 h1
      exact crider_spec hT hO hC z hp (Or.inr ⟨rfl, rfl⟩) (fun z => b_no (h0 z _ _ _ _ _ _ _)) (fun _ _ _ _ _ _ z hC2 => b_yes (h1 _ _ _ _ _ _ _ z hC2))
  · have e : c p = 73 := iI.mp e
    have ep : partF c N n p D.1 D.2.1 = if D.1 < 4 then partI c N n p else (0, p, 0, 0) := by unfold partF; rw [if_pos e]
    rw [er]
    refine pk_le 4 D.1 (fun z => b_no ?_) (fun z => b_yes ?_)
    · rw [← er]; exact no (r := 0) (t := 0) (ep.trans (if_neg (by omega)))
    · rw [← er]
      have ep := ep.trans (if_pos z)
      rw [ep] at h0 h1
      exact crider_spec hT hO hC z hp (Or.inl ⟨rfl, rfl⟩) (fun z => b_no (h0 z _ _ _ _ _ _ _)) (fun _ _ _ _ _ _ z hC2 => b_yes (h1 _ _ _ _ _ _ _ z hC2))
  · have e : c p = 83 := iS.mp e
    have ep : partF c N n p D.1 D.2.1 = if D.2.1 < 2 then partS c N n p else (0, p, 0, 0) := by unfold partF; rw [if_neg (by omega), if_neg (by omega), if_pos e]
    rw [et]
    refine pk_le 2 D.2.1 (fun z => b_no ?_) (fun z => b_yes ?_)
    · rw [← et]; exact no (r := 0) (t := 0) (ep.trans (if_neg (by omega)))
    · rw [← et]
      have ep := ep.trans (if_pos z)
      rw [ep] at h0 h1
      exact cstr_spec hT hO hC z hp (Or.inr ⟨rfl, rfl⟩) (fun z => b_no (h0 z _ _ _ _ _ _ _)) (fun _ _ z hC2 => b_yes (h1 _ _ _ _ _ _ _ z hC2))
  · have e : c p = 84 := iT.mp e
    have ep : partF c N n p D.1 D.2.1 = if D.2.1 < 2 then (4, p + 1, 0, 0) else (0, p, 0, 0) := by unfold partF; rw [if_neg (by omega), if_neg (by omega), if_neg (by omega), if_pos e]
    rw [et]
    refine pk_le 2 D.2.1 (fun z => b_no ?_) (fun z => b_yes ?_)
    · rw [← et]; exact no (r := 0) (t := 0) (ep.trans (if_neg (by omega)))
    · rw [← et]
      have ep := ep.trans (if_pos z)
      rw [ep] at h0 h1
      exact cstr_spec hT hO hC z hp (Or.inl ⟨rfl, rfl⟩) (fun z => b_no (h0 z _ _ _ _ _ _ _)) (fun _ _ z hC2 => b_yes (h1 _ _ _ _ _ _ _ z hC2))
  · refine no (r := 0) (t := 0) ?_
    unfold partF
    rw [if_neg (fun z => n2 (iI.mpr z)), if_neg (fun z => n1 (iA.mpr z)), if_neg (fun z => n3 (iS.mpr z)), if_neg (fun z => n4 (iT.mpr z))]
end TEXT
