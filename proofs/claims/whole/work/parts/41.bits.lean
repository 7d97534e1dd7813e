/-! PURE ROWS: bits -/
def bitsN : Nat → (Nat → Bool) → Nat
  | 0, _ => 0
  | n + 1, P => bitsN n P + bN (P n) (2 ^ n)
theorem bitsN_lt (n : Nat) (P : Nat → Bool) : bitsN n P < 2 ^ n := by
  induction n with
  | zero => exact Nat.one_pos
  | succ n ih =>
    unfold bitsN bN
    rw [Nat.pow_succ]
    split <;> omega
theorem bitsN_tb (n : Nat) (P : Nat → Bool) (i : Nat) : (bitsN n P).testBit i = (decide (i < n) && P i) := by
  induction n with
  | zero => simp [bitsN]
  | succ n ih =>
    have h := bitsN_lt n P
    unfold bitsN bN
    cases c : P n with
    | true =>
      rw [if_pos rfl, Nat.add_comm]
      rcases Nat.lt_trichotomy i n with q | q | q
      · rw [Nat.testBit_two_pow_add_gt q, ih]
        have : i < n + 1 := by omega
        simp [q, this]
      · subst q
        rw [Nat.testBit_two_pow_add_eq, Nat.testBit_lt_two_pow h]
        simp [c]
      · rw [Nat.testBit_lt_two_pow]
        · have : ¬ i < n + 1 := by omega
          simp [this]
        · have : 2 ^ (n + 1) ≤ 2 ^ i := Nat.pow_le_pow_right (by decide) q
          rw [Nat.pow_succ] at this
          omega
    | false =>
      rw [if_neg (by decide), Nat.add_zero, ih]
      by_cases q : i = n
      · subst q; simp [c]
      · by_cases q2 : i < n
        · have : i < n + 1 := by omega
          simp [q2, this]
        · have : ¬ i < n + 1 := by omega
          simp [q2, this]
theorem tb_ext {n a b : Nat} (ha : a < 2 ^ n) (hb : b < 2 ^ n) (h : ∀ i, i < n → a.testBit i = b.testBit i) : a = b := by
  apply Nat.eq_of_testBit_eq
  intro i
  by_cases q : i < n
  · exact h i q
  · have hp : 2 ^ n ≤ 2 ^ i := Nat.pow_le_pow_right (by decide) (Nat.le_of_not_lt q)
    rw [Nat.testBit_lt_two_pow (Nat.lt_of_lt_of_le ha hp), Nat.testBit_lt_two_pow (Nat.lt_of_lt_of_le hb hp)]
theorem bits4_N (P : Nat → Bool) : bits4 P = bitsN 4 P := by
  simp [bits4, bitsN]
theorem bits6_N (P : Nat → Bool) : bits6 P = bitsN 6 P := by
  simp [bits6, bits4, bitsN]
theorem bits4_lt (P : Nat → Bool) : bits4 P < 16 := by rw [bits4_N]; exact bitsN_lt 4 P
theorem bits6_lt (P : Nat → Bool) : bits6 P < 64 := by rw [bits6_N]; exact bitsN_lt 6 P
theorem bits4_tb (P : Nat → Bool) (i : Nat) : (bits4 P).testBit i = (decide (i < 4) && P i) := by rw [bits4_N]; exact bitsN_tb 4 P i
theorem bits6_tb (P : Nat → Bool) (i : Nat) : (bits6 P).testBit i = (decide (i < 6) && P i) := by rw [bits6_N]; exact bitsN_tb 6 P i
theorem outM_lt (w : Nat → Nat) (s : List Nat) (f : Nat) : outM w s f < 64 := bits6_lt _
theorem inM_lt (s : List Nat) (f : Nat) : inM s f < 64 := bits6_lt _
theorem and_sub_tb {x m : Nat} (h : x &&& m = x) {i : Nat} (hi : x.testBit i = true) : m.testBit i = true := by
  rw [← h, Nat.testBit_and, Bool.and_eq_true] at hi
  exact hi.2
/-! one number of the parts of a state -/
theorem i32_andn (x y : Int32) : x &&& (y ^^^ (-1)) = x ^^^ (x &&& y) := by
  apply Int32.toBitVec_inj.1
  show x.toBitVec &&& (y.toBitVec ^^^ (-1 : Int32).toBitVec) = x.toBitVec ^^^ (x.toBitVec &&& y.toBitVec)
  have e : (-1 : Int32).toBitVec = BitVec.allOnes 32 := by decide
  rw [e]
  apply BitVec.eq_of_getLsbD_eq
  intro i hi
  rw [BitVec.getLsbD_and, BitVec.getLsbD_xor, BitVec.getLsbD_xor, BitVec.getLsbD_and, BitVec.getLsbD_allOnes]
  simp only [hi, decide_true]
  generalize x.toBitVec.getLsbD i = u
  generalize y.toBitVec.getLsbD i = v
  cases u <;> cases v <;> rfl
def andn (a b : Nat) : Nat := a ^^^ (a &&& b)
theorem nI_andn (a b : Nat) : nI a &&& (nI b ^^^ (-1)) = nI (andn a b) := by
  rw [i32_andn, fa_and, fb_xorI]; rfl
theorem andn_tb (a b i : Nat) : (andn a b).testBit i = (a.testBit i && !b.testBit i) := by
  unfold andn
  rw [Nat.testBit_xor, Nat.testBit_and]
  cases a.testBit i <;> cases b.testBit i <;> rfl
theorem sh1 : ∀ j, j < 31 → (1 : Int32) <<< (nI j &&& 31) = nI (2 ^ j) := by decide +kernel
theorem hasB : ∀ m, m < 64 → ∀ k, k < 6 → ((nI m >>> (nI k &&& 31)) &&& 1) = nI (m.testBit k).toNat := by decide +kernel
