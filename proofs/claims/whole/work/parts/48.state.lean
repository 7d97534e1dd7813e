/-! PURE ROWS: the class's numbers for states and halts -/
theorem shA {x : Nat} (hx : x < 2 ^ 31) (s : Int32) (k : Nat) (hs : (s.toBitVec.smod 32).toNat = k) (m : Int32) (j : Nat) (hm : m.toBitVec.toNat = 2 ^ j - 1) : (nI x >>> s) &&& m = nI (x / 2 ^ k % 2 ^ j) := by
  rw [pk_shrN hx s k hs, pk_andN (Nat.lt_of_le_of_lt (Nat.div_le_self _ _) (by omega)) j hm]
theorem anA {x : Nat} (hx : x < 2 ^ 31) (m : Int32) (j : Nat) (hm : m.toBitVec.toNat = 2 ^ j - 1) : nI x &&& m = nI (x % 2 ^ j) := pk_andN (by omega) j hm
theorem slA {x : Nat} (s : Int32) (k : Nat) (hs : (s.toBitVec.smod 32).toNat = k) (h : x * 2 ^ k < 2 ^ 32) : nI x <<< s = nI (x * 2 ^ k) := pk_shlN s k hs h
def E4 (a d p q : Nat) : Nat := a + 16 * d + 256 * p + 2048 * q
theorem encS_E (s : List Nat) : encS s = E4 (bits4 fun k => pz s k == 6) (bits4 fun k => pz s k == 7) (plc (pz s 4)) (plc (pz s 5)) := rfl
theorem E4_lt {a d p q : Nat} (ha : a < 16) (hd : d < 16) (hp : p < 8) (hq : q < 8) : E4 a d p q < 16384 := by unfold E4; omega
theorem plc_lt {x : Nat} (h : x < 9) : plc x < 8 := by unfold plc; split <;> (try split) <;> omega
theorem low4 {A R : Nat} (hA : A < 16) (j : Nat) : (A + 16 * R).testBit j = if j < 4 then A.testBit j else R.testBit (j - 4) := by
  rw [Nat.add_comm, show 16 * R = 2 ^ 4 * R from rfl, Nat.testBit_two_pow_mul_add R (by omega : A < 2 ^ 4)]
/-- the riders' part: some bits off, some on, some on four places higher -/
theorem rid4 {A R x y z : Nat} (hA : A < 16) (hx : x < 16) (hy : y < 16) (hz : z < 16) : (andn (A + 16 * R) x ||| y) ||| (z * 16) = (andn A x ||| y) + 16 * (R ||| z) := by
  have h1 : andn A x ||| y < 16 := by
    apply Nat.or_lt_two_pow (n := 4) _ hy
    exact Nat.xor_lt_two_pow (n := 4) hA (Nat.and_lt_two_pow (n := 4) A hx)
  apply Nat.eq_of_testBit_eq
  intro j
  rw [low4 h1]
  have hz16 : z * 16 = 0 + 16 * z := by omega
  simp only [Nat.testBit_or, andn_tb, low4 hA]
  rw [hz16, low4 (by decide)]
  by_cases c : j < 4
  · simp [c]
  · have e1 : x.testBit j = false := Nat.testBit_lt_two_pow (Nat.lt_of_lt_of_le (by omega : x < 2 ^ 4) (Nat.pow_le_pow_right (by decide) (by omega)))
    have e2 : y.testBit j = false := Nat.testBit_lt_two_pow (Nat.lt_of_lt_of_le (by omega : y < 2 ^ 4) (Nat.pow_le_pow_right (by decide) (by omega)))
    simp [c, e1, e2]
theorem strA : ∀ ad, ad < 256 → ∀ q, q < 8 → ∀ t, t < 8 → (ad + 2048 * q) ||| (t * 256) = ad + 256 * t + 2048 * q := by decide +kernel
theorem strB : ∀ adp, adp < 2048 → ∀ t, t < 8 → adp ||| (t * 2048) = adp + 2048 * t := by
  intro adp h t _
  rw [Nat.mul_comm t 2048, Nat.or_comm, show 2048 * t = 2 ^ 11 * t from rfl, ← Nat.two_pow_add_eq_or_of_lt (by omega : adp < 2 ^ 11), Nat.add_comm]
theorem andn_hi {A R M k : Nat} (hA : A < 2 ^ k) : andn (2 ^ k * R + A) (2 ^ k * M) = 2 ^ k * andn R M + A := by
  apply Nat.eq_of_testBit_eq
  intro j
  rw [andn_tb, Nat.testBit_two_pow_mul_add R hA, Nat.testBit_two_pow_mul_add _ hA, show 2 ^ k * M = 2 ^ k * M + 0 from rfl, Nat.testBit_two_pow_mul_add M (Nat.two_pow_pos k), andn_tb]
  by_cases c : j < k <;> simp [c]
theorem andn7 : ∀ R, R < 64 → andn R 7 = 8 * (R / 8) := by decide +kernel
theorem offA : ∀ x, x < 16384 → nI x &&& (-1793) = nI (x % 256 + 2048 * (x / 2048)) := by
  intro x hx
  rw [show (-1793 : Int32) = nI 1792 ^^^ (-1) from by decide, nI_andn]
  have h := andn_hi (A := x % 256) (R := x / 256) (M := 7) (k := 8) (Nat.mod_lt _ (by decide))
  rw [show 2 ^ 8 * (x / 256) + x % 256 = x from Nat.div_add_mod x 256, andn7 _ (by omega), show 2 ^ 8 * 7 = 1792 from rfl] at h
  rw [h]
  congr 1
  omega
theorem offB : ∀ x, x < 16384 → nI x &&& (-14337) = nI (x % 2048) := by
  intro x hx
  rw [show (-14337 : Int32) = nI 14336 ^^^ (-1) from by decide, nI_andn]
  have h := andn_hi (A := x % 2048) (R := x / 2048) (M := 7) (k := 11) (Nat.mod_lt _ (by decide))
  rw [show 2 ^ 11 * (x / 2048) + x % 2048 = x from Nat.div_add_mod x 2048, andn7 _ (by omega), show 2 ^ 11 * 7 = 14336 from rfl] at h
  rw [h]
  congr 1
  omega
theorem g16 : ∀ g, g < 64 → ((nI g &&& 16) = 0 ↔ g.testBit 4 = false) := by decide +kernel
theorem g32 : ∀ g, g < 64 → ((nI g &&& 32) = 0 ↔ g.testBit 5 = false) := by decide +kernel
theorem ws_spec {a d p q g t : Nat} {P : Int32 → Prop} (ha : a < 16) (hd : d < 16) (hp : p < 8) (hq : q < 8) (hg : g < 64) (ht : t < 8)
    (h : P (nI (E4 a d (if g.testBit 4 then t else p) (if g.testBit 5 then t else q)))) : wp_X8_withStrangers (nI (E4 a d p q)) (nI g) (nI t) P := by
  have eA : ∀ p q, p < 8 → q < 8 → (nI (E4 a d p q) &&& (-1793 : Int32)) ||| (nI t <<< ((8 : Int32) &&& 31)) = nI (E4 a d t q) := by
    intro p q hp hq
    rw [offA _ (E4_lt ha hd hp hq), slA _ 8 (by decide) (by omega), fa_or]
    have e1 : E4 a d p q % 256 = a + 16 * d := by unfold E4; omega
    have e2 : E4 a d p q / 2048 = q := by unfold E4; omega
    rw [e1, e2, show t * 2 ^ 8 = t * 256 from rfl, strA _ (by omega) _ hq _ ht]
    rfl
  have eB : ∀ p q, p < 8 → q < 8 → (nI (E4 a d p q) &&& (-14337 : Int32)) ||| (nI t <<< ((11 : Int32) &&& 31)) = nI (E4 a d p t) := by
    intro p q hp hq
    rw [offB _ (E4_lt ha hd hp hq), slA _ 11 (by decide) (by omega), fa_or]
    have e1 : E4 a d p q % 2048 = a + 16 * d + 256 * p := by unfold E4; omega
    rw [e1, show t * 2 ^ 11 = t * 2048 from rfl, strB _ (by omega) _ ht]
    rfl
  unfold wp_X8_withStrangers
  refine ⟨fun c x hx => ⟨fun c2 => ?_, fun c2 => ?_⟩, fun c => ⟨fun c2 => ?_, fun c2 => ?_⟩⟩
  · rw [g16 g hg, Bool.not_eq_false] at c
    rw [g32 g hg, Bool.not_eq_false] at c2
    rw [if_pos c, if_pos c2] at h
    rw [hx, eA p q hp hq, eB t q ht hq]
    exact h
  · rw [g16 g hg, Bool.not_eq_false] at c
    rw [g32 g hg] at c2
    rw [if_pos c, if_neg (by rw [c2]; decide)] at h
    rw [hx, eA p q hp hq]
    exact h
  · rw [g16 g hg] at c
    rw [g32 g hg, Bool.not_eq_false] at c2
    rw [if_neg (by rw [c]; decide), if_pos c2] at h
    rw [eB p q hp hq]
    exact h
  · rw [g16 g hg] at c
    rw [g32 g hg] at c2
    rw [if_neg (by rw [c]; decide), if_neg (by rw [c2]; decide)] at h
    exact h
def PzOk (s : List Nat) : Prop := s.length = 6 ∧ ∀ k, k < 6 → pz s k < 9 ∧ (4 ≤ k → pz s k ≠ 7)
theorem StOk.pz {n r : Nat} {b : Nat → Nat} {s : List Nat} (hn : n ≤ 6) (h : StOk n r b s) : PzOk s := by
  obtain ⟨h1, h2, h3, h4⟩ := h
  refine ⟨h1, fun k hk => ?_⟩
  rcases Nat.lt_or_ge k 4 with c | c
  · refine ⟨?_, fun q => by omega⟩
    rcases Nat.lt_or_ge k r with c2 | c2
    · rcases h2 k c c2 with ⟨q, q2⟩ | q | q <;> omega
    · rw [h3 k c c2]; decide
  · rcases h4 k c hk with q | q | q <;> omega
theorem plc_eq : ∀ x, x < 9 → x ≠ 7 → ∀ t, t < 6 → ((plc x == t) = (x == t)) := by decide +kernel
theorem plc_7 : ∀ x, x < 9 → x ≠ 7 → ((plc x == 7) = (x == 6)) := by decide +kernel
theorem E4_p {a d p q : Nat} (ha : a < 16) (hd : d < 16) (hp : p < 8) (hq : q < 8) : (nI (E4 a d p q) >>> ((8 : Int32) &&& 31)) &&& (7 : Int32) = nI p := by
  rw [shA (by have := E4_lt ha hd hp hq; omega) _ 8 (by decide) 7 3 (by decide)]
  congr 1
  unfold E4; omega
theorem E4_q {a d p q : Nat} (ha : a < 16) (hd : d < 16) (hp : p < 8) (hq : q < 8) : (nI (E4 a d p q) >>> ((11 : Int32) &&& 31)) &&& (7 : Int32) = nI q := by
  rw [shA (by have := E4_lt ha hd hp hq; omega) _ 11 (by decide) 7 3 (by decide)]
  congr 1
  unfold E4; omega
theorem orB : ∀ x, x < 2 → ∀ y, y < 2 → ((if x = 0 then (0 : Int32) else 16) ||| (if y = 0 then (0 : Int32) else 32)) = nI (16 * x + 32 * y) := by decide +kernel
theorem sa_spec {a d p q t : Nat} {P : Int32 → Prop} (ha : a < 16) (hd : d < 16) (hp : p < 8) (hq : q < 8) (ht : t < 2 ^ 31) (h : P (nI (bN (p == t) 16 + bN (q == t) 32))) : wp_X8_strangersAt (nI (E4 a d p q)) (nI t) P := by
  unfold wp_X8_strangersAt
  rw [E4_p ha hd hp hq, E4_q ha hd hp hq]
  have e1 : (nI p = nI t) ↔ p = t := nI_eq (by omega) ht
  have e2 : (nI q = nI t) ↔ q = t := nI_eq (by omega) ht
  refine ⟨fun c => ⟨fun c2 => ?_, fun c2 => ?_⟩, fun c => ⟨fun c2 => ?_, fun c2 => ?_⟩⟩ <;> rw [e1] at c <;> rw [e2] at c2 <;> simp [bN, c, c2] at h ⊢ <;> exact h
theorem at_in {f : Nat → Int32} {n j : Nat} {P : Int32 → Prop} (hj : j < n) (hn : n < 2 ^ 31) (h : P (f j)) : wp_X10_at (nI j) n f P := by
  unfold wp_X10_at
  refine ⟨fun c => absurd c (nI_pos (by omega)), fun _ => ⟨fun c => ?_, fun _ => ⟨vp_in_nI hj hn, ?_⟩⟩⟩
  · exact absurd ((nI_leI (a := n) hn (by omega)).mp c) (by omega)
  · rw [nI_clamp (by omega)]; exact h
theorem put_in {f : Nat → Int32} {n j : Nat} {v : Int32} {P : (Nat → Int32) → Prop} (hj : j < n) (hn : n < 2 ^ 31) (h : P (upd f j v)) : wp_X10_put (nI j) v n f P := by
  unfold wp_X10_put
  refine ⟨fun c => absurd c (nI_pos (by omega)), fun _ => ⟨fun c => ?_, fun _ => ⟨vp_in_nI hj hn, ?_⟩⟩⟩
  · exact absurd ((nI_leI (a := n) hn (by omega)).mp c) (by omega)
  · intro g hg
    rw [nI_clamp (by omega)] at hg
    rw [hg]; exact h
theorem put_out {f : Nat → Int32} {n : Nat} {i v : Int32} {P : (Nat → Int32) → Prop} (hi : i < 0) (h : P f) : wp_X10_put i v n f P := by
  unfold wp_X10_put
  exact ⟨fun _ => h, fun c => absurd hi c⟩
theorem at_out {f : Nat → Int32} {n : Nat} {i : Int32} {P : Int32 → Prop} (hi : i < 0) (h : P 0) : wp_X10_at i n f P := by
  unfold wp_X10_at
  exact ⟨fun _ => h, fun c => absurd hi c⟩
/-- bits of the parts -/
theorem or_tb4 {A : Nat} (hA : A < 16) (c e : Bool) (k : Nat) (hk : k < 6) : (A ||| (bN c 16 + bN e 32)).testBit k = if k < 4 then A.testBit k else if k = 4 then c else e := by
  have h : ∀ A, A < 16 → ∀ k, k < 6 → (A ||| (bN c 16 + bN e 32)).testBit k = if k < 4 then A.testBit k else if k = 4 then c else e := by
    cases c <;> cases e <;> decide +kernel
  exact h A hA k hk
theorem or_lt4 {A : Nat} (hA : A < 16) (c e : Bool) : A ||| (bN c 16 + bN e 32) < 64 := by
  apply Nat.or_lt_two_pow (n := 6) (by omega)
  cases c <;> cases e <;> decide
theorem encS_parts {s : List Nat} (h : PzOk s) : bits4 (fun k => pz s k == 6) < 16 ∧ bits4 (fun k => pz s k == 7) < 16 ∧ plc (pz s 4) < 8 ∧ plc (pz s 5) < 8 :=
  ⟨bits4_lt _, bits4_lt _, plc_lt (h.2 4 (by decide)).1, plc_lt (h.2 5 (by decide)).1⟩
theorem encS_lt {s : List Nat} (h : PzOk s) : encS s < 16384 := by
  obtain ⟨a, b, c, d⟩ := encS_parts h
  exact E4_lt a b c d
theorem sa_enc {s : List Nat} {t : Nat} {P : Int32 → Prop} (h : PzOk s) (ht : t < 2 ^ 31) (hP : P (nI (bN (plc (pz s 4) == t) 16 + bN (plc (pz s 5) == t) 32))) : wp_X8_strangersAt (nI (encS s)) (nI t) P := by
  obtain ⟨a, b, c, d⟩ := encS_parts h
  exact sa_spec a b c d ht hP
theorem enc_and15 {s : List Nat} (h : PzOk s) : encS s % 16 = bits4 (fun k => pz s k == 6) := by
  have := bits4_lt (fun k => pz s k == 6)
  rw [encS_E]; unfold E4; omega
theorem enc_div16 {s : List Nat} (h : PzOk s) : encS s / 16 % 16 = bits4 (fun k => pz s k == 7) := by
  have := bits4_lt (fun k => pz s k == 6)
  have := bits4_lt (fun k => pz s k == 7)
  rw [encS_E]; unfold E4; omega
theorem done_enc {s : List Nat} {P : Int32 → Prop} (h : PzOk s) (hP : P (nI (bits4 fun k => pz s k == 7))) : wp_X8_done (nI (encS s)) P := by
  unfold wp_X8_done
  have := encS_lt h
  rw [shA (by omega) _ 4 (by decide) 15 4 (by decide), show encS s / 2 ^ 4 % 2 ^ 4 = encS s / 16 % 16 from rfl, enc_div16 h]
  exact hP
theorem mayLeave_enc {n r t : Nat} {w b : Nat → Nat} {s : List Nat} {f : Nat} {lwa : Nat → Int32} {P : Int32 → Prop} (hs : StG n r b s) (hr : r ≤ 4) (hf : f < 6) (hwa : lwa f = nI (bits4 fun k => decide (k < r) && w k == f)) (hP : P (nI (outM w s f))) : wp_X3_mayLeave (nI (encS s)) (nI f) lwa P := by
  have hz := hs.2.pz hs.1
  unfold wp_X3_mayLeave
  refine at_in hf (by decide) ?_
  refine sa_enc (t := 7) hz (by decide) ?_
  rw [hwa, fa_and, fa_or]
  have e : encS s &&& bits4 (fun k => decide (k < r) && w k == f) ||| (bN (plc (pz s 4) == 7) 16 + bN (plc (pz s 5) == 7) 32) = outM w s f := by
    have hA : encS s &&& bits4 (fun k => decide (k < r) && w k == f) < 16 := Nat.and_lt_two_pow (n := 4) _ (bits4_lt _)
    apply tb_ext (n := 6) (or_lt4 hA _ _) (outM_lt _ _ _)
    intro k hk
    rw [or_tb4 hA _ _ k hk]
    unfold outM
    rw [bits6_tb, Nat.testBit_and, bits4_tb]
    have q4 := plc_7 (pz s 4) (hz.2 4 (by decide)).1 ((hz.2 4 (by decide)).2 (by decide))
    have q5 := plc_7 (pz s 5) (hz.2 5 (by decide)).1 ((hz.2 5 (by decide)).2 (by decide))
    by_cases c : k < 4
    · have hb : (encS s).testBit k = (pz s k == 6) := by
        have h1 := low4 (R := encS s / 16) (bits4_lt (fun k => pz s k == 6)) k
        rw [← enc_and15 hz, Nat.mod_add_div, if_pos c, enc_and15 hz, bits4_tb] at h1
        rw [h1]; simp [c]
      rw [if_pos c, hb]
      have c4 : ¬ 4 ≤ k := by omega
      simp only [c, hk, decide_true, Bool.true_and, c4, decide_false, Bool.false_or]
      by_cases hkr : k < r
      · simp [hkr]
      · have := hs.2.2.2.1 k c (by omega)
        simp [hkr, this]
    · rcases (show k = 4 ∨ k = 5 by omega) with rfl | rfl
      · simp [q4]
      · simp [q5]
  rw [e]
  exact hP
theorem mayEnter_enc {n r t : Nat} {w b : Nat → Nat} {s : List Nat} {f : Nat} {lsa : Nat → Int32} {P : Int32 → Prop} (hs : StG n r b s) (hr : r ≤ 4) (hf : f < n) (hsa : lsa f = nI (bits4 fun k => decide (k < r) && b k == f)) (hP : P (nI (inM s f))) : wp_X3_mayEnter (nI (encS s)) (nI f) lsa P := by
  have hz := hs.2.pz hs.1
  have hn := hs.1
  have hlt := encS_lt hz
  unfold wp_X3_mayEnter
  refine at_in (show f < 6 by omega) (by decide) ?_
  unfold wp_X8_goneIn
  rw [pk_shrN (by omega) _ 4 (by decide), fa_or, anA (x := encS s ||| encS s / 2 ^ 4) (Nat.lt_of_lt_of_le (Nat.or_lt_two_pow (n := 14) hlt (by have : encS s / 2 ^ 4 ≤ encS s := Nat.div_le_self _ _; omega)) (by decide)) 15 4 (by decide)]
  refine sa_enc hz (by omega) ?_
  rw [hsa, nI_andn, fa_or]
  have e : andn (bits4 fun k => decide (k < r) && b k == f) ((encS s ||| encS s / 2 ^ 4) % 2 ^ 4) ||| (bN (plc (pz s 4) == f) 16 + bN (plc (pz s 5) == f) 32) = inM s f := by
    have hA : andn (bits4 fun k => decide (k < r) && b k == f) ((encS s ||| encS s / 2 ^ 4) % 2 ^ 4) < 16 := Nat.xor_lt_two_pow (n := 4) (bits4_lt _) (Nat.and_lt_two_pow (n := 4) _ (Nat.mod_lt _ (by decide)))
    apply tb_ext (n := 6) (or_lt4 hA _ _) (inM_lt _ _)
    intro k hk
    rw [or_tb4 hA _ _ k hk]
    unfold inM
    rw [bits6_tb, andn_tb, bits4_tb]
    have q4 := plc_eq (pz s 4) (hz.2 4 (by decide)).1 ((hz.2 4 (by decide)).2 (by decide)) f (by omega)
    have q5 := plc_eq (pz s 5) (hz.2 5 (by decide)).1 ((hz.2 5 (by decide)).2 (by decide)) f (by omega)
    by_cases c : k < 4
    · have h1 : (encS s).testBit k = (pz s k == 6) := by
        have h1 := low4 (R := encS s / 16) (bits4_lt (fun k => pz s k == 6)) k
        rw [← enc_and15 hz, Nat.mod_add_div, if_pos c, enc_and15 hz, bits4_tb] at h1
        rw [h1]; simp [c]
      have h2 : (encS s / 2 ^ 4).testBit k = (pz s k == 7) := by
        have h2 := low4 (R := encS s / 16 / 16) (bits4_lt (fun k => pz s k == 7)) k
        rw [← enc_div16 hz, Nat.mod_add_div, if_pos c, enc_div16 hz, bits4_tb] at h2
        rw [show encS s / 2 ^ 4 = encS s / 16 from rfl, h2]; simp [c]
      rw [if_pos c, Nat.testBit_mod_two_pow, Nat.testBit_or, h1, h2]
      simp only [c, hk, decide_true, Bool.true_and]
      by_cases hkr : k < r
      · have := hs.2.2.1 k c hkr
        rcases this with ⟨q, q2⟩ | q | q
        · rw [q]
          have a6 : ¬ b k = 6 := by omega
          have a7 : ¬ b k = 7 := by omega
          simp [hkr, a6, a7]
        · have : ¬ 6 = f := by omega
          simp [q, this]
        · have : ¬ 7 = f := by omega
          simp [q, this]
      · have := hs.2.2.2.1 k c (by omega)
        have h8 : ¬ 8 = f := by omega
        simp [hkr, this, h8]
    · rcases (show k = 4 ∨ k = 5 by omega) with rfl | rfl
      · simp [q4]
      · simp [q5]
  rw [e]
  exact hP
/-- a halt, on the class's number -/
theorem after_enc {s : List Nat} {f o i : Nat} {P : Int32 → Prop} (hz : PzOk s) (hf : f < 6) (ho : o < 64) (hi : i < 64) (hx : ∀ k, k < 4 → i.testBit k = true → pz s k ≠ 7 ∧ o.testBit k = false) (hP : P (nI (encS (chg s f o i)))) : wp_X8_after (nI (encS s)) (nI f) (nI o) (nI i) P := by
  obtain ⟨ha, hd, hp, hq⟩ := encS_parts hz
  have hlt := encS_lt hz
  unfold wp_X8_after
  intro x hxe
  rw [anA (by omega) 15 4 (by decide), anA (by omega) 15 4 (by decide), nI_andn, fa_or, slA _ 4 (by decide) (by have : o % 2 ^ 4 < 2 ^ 4 := Nat.mod_lt _ (by decide); omega), fa_or] at hxe
  have e1 : encS s = bits4 (fun k => pz s k == 6) + 16 * (bits4 (fun k => pz s k == 7) + 16 * plc (pz s 4) + 128 * plc (pz s 5)) := by rw [encS_E]; unfold E4; omega
  have ho4 : o % 2 ^ 4 < 16 := Nat.mod_lt _ (by decide)
  have hi4 : i % 2 ^ 4 < 16 := Nat.mod_lt _ (by decide)
  have e2 : (bits4 (fun k => pz s k == 7) + 16 * plc (pz s 4) + 128 * plc (pz s 5)) ||| (o % 2 ^ 4) = (bits4 (fun k => pz s k == 7) ||| (o % 2 ^ 4)) + 16 * (plc (pz s 4) + 8 * plc (pz s 5)) := by
    have := rid4 (R := plc (pz s 4) + 8 * plc (pz s 5)) hd (show 0 < 16 by decide) ho4 (show 0 < 16 by decide)
    unfold andn at this
    rw [Nat.and_zero, Nat.xor_zero, Nat.zero_mul, Nat.or_zero, Nat.and_zero, Nat.xor_zero, Nat.or_zero] at this
    rw [show bits4 (fun k => pz s k == 7) + 16 * plc (pz s 4) + 128 * plc (pz s 5) = bits4 (fun k => pz s k == 7) + 16 * (plc (pz s 4) + 8 * plc (pz s 5)) by omega]
    exact this
  rw [e1, show (o % 2 ^ 4) * 2 ^ 4 = (o % 2 ^ 4) * 16 from rfl, rid4 ha ho4 hi4 ho4, e2] at hxe
  have hA : andn (bits4 fun k => pz s k == 6) (o % 2 ^ 4) ||| (i % 2 ^ 4) < 16 := Nat.or_lt_two_pow (n := 4) (Nat.xor_lt_two_pow (n := 4) ha (Nat.and_lt_two_pow (n := 4) _ ho4)) hi4
  have hD : bits4 (fun k => pz s k == 7) ||| (o % 2 ^ 4) < 16 := Nat.or_lt_two_pow (n := 4) hd ho4
  have e3 : x = nI (E4 (andn (bits4 fun k => pz s k == 6) (o % 2 ^ 4) ||| (i % 2 ^ 4)) (bits4 (fun k => pz s k == 7) ||| (o % 2 ^ 4)) (plc (pz s 4)) (plc (pz s 5))) := by
    rw [hxe]
    congr 1
    unfold E4; omega
  rw [e3]
  refine ws_spec hA hD hp hq ho (by omega) ?_
  have hp2 : (if o.testBit 4 = true then f else plc (pz s 4)) < 8 := by split <;> omega
  have hq2 : (if o.testBit 5 = true then f else plc (pz s 5)) < 8 := by split <;> omega
  refine ws_spec hA hD hp2 hq2 hi (by decide) ?_
  have c4 := chg_pz s f o i 4 (by decide)
  have c5 := chg_pz s f o i 5 (by decide)
  have f6 : plc f = f := by unfold plc; rw [if_neg (by omega), if_neg (by omega)]
  have g4 : plc (pz (chg s f o i) 4) = if i.testBit 4 = true then 7 else if o.testBit 4 = true then f else plc (pz s 4) := by
    rw [c4]; split
    · rfl
    · split
      · rw [if_neg (by decide)]; exact f6
      · rfl
  have g5 : plc (pz (chg s f o i) 5) = if i.testBit 5 = true then 7 else if o.testBit 5 = true then f else plc (pz s 5) := by
    rw [c5]; split
    · rfl
    · split
      · rw [if_neg (by decide)]; exact f6
      · rfl
  have gA : andn (bits4 fun k => pz s k == 6) (o % 2 ^ 4) ||| (i % 2 ^ 4) = bits4 (fun k => pz (chg s f o i) k == 6) := by
    apply tb_ext (n := 4) hA (bits4_lt _)
    intro k hk
    rw [Nat.testBit_or, andn_tb, bits4_tb, bits4_tb, Nat.testBit_mod_two_pow, Nat.testBit_mod_two_pow, chg_pz _ _ _ _ _ (by omega)]
    simp only [hk, decide_true, Bool.true_and]
    cases ci : i.testBit k with
    | true => simp
    | false =>
      cases co : o.testBit k with
      | true => simp
      | false => simp
  have gD : bits4 (fun k => pz s k == 7) ||| (o % 2 ^ 4) = bits4 (fun k => pz (chg s f o i) k == 7) := by
    apply tb_ext (n := 4) hD (bits4_lt _)
    intro k hk
    rw [Nat.testBit_or, bits4_tb, bits4_tb, Nat.testBit_mod_two_pow, chg_pz _ _ _ _ _ (by omega)]
    simp only [hk, decide_true, Bool.true_and]
    cases ci : i.testBit k with
    | true =>
      obtain ⟨x1, x2⟩ := hx k hk ci
      simp [x1, x2]
    | false =>
      cases co : o.testBit k with
      | true => simp
      | false => simp
  rw [gA, gD, ← g4, ← g5]
  exact hP
