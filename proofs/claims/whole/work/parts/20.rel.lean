/-! WHAT BOTH HOLD: the numbers behind the class's objects and the reference's -/
/-- who is where: places of the riders 0 .. 3 and the strangers 4, 5: a floor, 6 inside, 7 done, 8 not there -/
def pz (s : List Nat) (k : Nat) : Nat := s.getD k 8
def bN (c : Bool) (v : Nat) : Nat := if c then v else 0
def bits4 (P : Nat → Bool) : Nat := bN (P 0) 1 + bN (P 1) 2 + bN (P 2) 4 + bN (P 3) 8
def bits6 (P : Nat → Bool) : Nat := bits4 P + bN (P 4) 16 + bN (P 5) 32
def pop6 (m : Nat) : Nat := (m.testBit 0).toNat + (m.testBit 1).toNat + (m.testBit 2).toNat + (m.testBit 3).toNat + (m.testBit 4).toNat + (m.testBit 5).toNat
def outM (w : Nat → Nat) (s : List Nat) (f : Nat) : Nat := bits6 fun k => pz s k == 6 && (decide (4 ≤ k) || w k == f)
def inM (s : List Nat) (f : Nat) : Nat := bits6 fun k => pz s k == f
def chg (s : List Nat) (f o i : Nat) : List Nat := [0, 1, 2, 3, 4, 5].map fun k => if i.testBit k then 6 else if o.testBit k then (if k < 4 then 7 else f) else pz s k
def subs (m : Nat) : List Nat := (List.range 64).filter fun x => x != 0 && x &&& m == x
def pairs (o i : Nat) : List (Nat × Nat) := (subs o).flatMap fun x => ((subs i).filter fun y => pop6 y == pop6 x).map fun y => (x, y)
/-- what is met: a state, from which place of the row, by which halt -/
abbrev Met1 : Type := List Nat × Nat × Nat × Nat × Nat
def meetA (L : List Met1) (e : Met1) : List Met1 := if L.any (fun x => x.1 == e.1) then L else L ++ [e]
def spreadF (w : Nat → Nat) (i : Nat) (s : List Nat) (L : List Met1) (f : Nat) : List Met1 := (pairs (outM w s f) (inM s f)).foldl (fun L q => meetA L (chg s f q.1 q.2, i, f, q.1, q.2)) L
def spreadA (n : Nat) (w : Nat → Nat) (L : List Met1) (i : Nat) : List Met1 := (List.range n).foldl (spreadF w i (L.getD i ([], 0, 0, 0, 0)).1) L
def bfsA (n : Nat) (w : Nat → Nat) : Nat → Nat → List Met1 → List Met1
  | 0, _, L => L
  | k + 1, i, L => if i < L.length then bfsA n w k (i + 1) (spreadA n w L i) else L
def bfs (n : Nat) (w : Nat → Nat) (s : List Nat) : List Met1 := bfsA n w 128 0 [(s, 0, 0, 0, 0)]
def plc (x : Nat) : Nat := if x = 6 then 7 else if x = 8 then 6 else x
def encS (s : List Nat) : Nat := bits4 (fun k => pz s k == 6) + 16 * bits4 (fun k => pz s k == 7) + 256 * plc (pz s 4) + 2048 * plc (pz s 5)
def HouseOk (n r t : Nat) (w b : Nat → Nat) : Prop := 2 ≤ n ∧ n ≤ 6 ∧ r ≤ 4 ∧ t ≤ 2 ∧ ∀ k, k < r → w k < n ∧ (b k < n ∨ b k = 9)
def StOk (n r : Nat) (b : Nat → Nat) (s : List Nat) : Prop := s.length = 6 ∧ (∀ k, k < 4 → k < r → (pz s k = b k ∧ b k < n) ∨ pz s k = 6 ∨ pz s k = 7) ∧ (∀ k, k < 4 → r ≤ k → pz s k = 8) ∧ ∀ k, 4 ≤ k → k < 6 → pz s k < n ∨ pz s k = 6 ∨ pz s k = 8
def StrOk (t : Nat) (s : List Nat) : Prop := ∀ j, j < 2 → (pz s (4 + j) = 8 ↔ t ≤ j)
def HouseL (n r t : Nat) (w b : Nat → Nat) (lf lr lt : Int32) (lw ls lwa lsa : Nat → Int32) : Prop :=
  lf = nI n ∧ lr = nI r ∧ lt = nI t ∧ (∀ k, k < r → lw k = nI (w k)) ∧ (∀ k, k < r → b k < n → ls k = nI (b k)) ∧ (∀ k, k < r → ¬ b k < n → ls k = -9) ∧ (∀ f, f < 6 → lwa f = nI (bits4 fun k => decide (k < r) && w k == f)) ∧ ∀ f, f < 6 → lsa f = nI (bits4 fun k => decide (k < r) && b k == f)
def HouseM (n r t : Nat) (w b : Nat → Nat) (mf mr mt : Int32) (mw ms : Nat → Int32) : Prop :=
  mf = nI n ∧ mr = nI r ∧ mt = nI t ∧ (∀ k, k < r → mw k = nI (w k)) ∧ ∀ k, k < r → b k < n → ms k = nI (b k)
/-- the floor where the hoist is behind i halts; the flights -/
def hoN (HF : Nat → Nat) : Nat → Nat
  | 0 => 0
  | i + 1 => HF i
def flN (HF : Nat → Nat) : Nat → Nat
  | 0 => 0
  | i + 1 => flN HF i + (if hoN HF i < HF i then HF i - hoN HF i else hoN HF i - HF i)
/-- the halts that were made: a row of states from one to the next -/
def RowOk (n r t h : Nat) (w b HF HO HI : Nat → Nat) (s : List Nat) : Prop := h ≤ 24 ∧ ∃ S : Nat → List Nat, S h = s ∧ ∀ i, i < h → HF i < n ∧ HO i &&& outM w (S i) (HF i) = HO i ∧ HI i &&& inM (S i) (HF i) = HI i ∧ S (i + 1) = chg (S i) (HF i) (HO i) (HI i) ∧ StOk n r b (S i) ∧ StrOk t (S i)
def Core (n r t h : Nat) (w b HF HO HI : Nat → Nat) (s : List Nat) (lf lr lt lst lsz : Int32) (lw ls lwa lsa lrow : Nat → Int32) (mf mr mt mho mfl mh : Int32) (mat mw ms mmade : Nat → Int32) : Prop :=
  HouseOk n r t w b ∧ StOk n r b s ∧ StrOk t s ∧ RowOk n r t h w b HF HO HI s ∧
  HouseL n r t w b lf lr lt lw ls lwa lsa ∧ lst = nI (encS s) ∧ lsz = nI h ∧ (∀ i, i < h → lrow i = nI (HF i * 4096 + HO i * 64 + HI i)) ∧
  HouseM n r t w b mf mr mt mw ms ∧ (∀ k, k < 6 → mat k = nI (pz s k)) ∧ mh = nI h ∧ mho = nI (hoN HF h) ∧ mfl = nI (flN HF h) ∧ ∀ i, i < h → mmade (4 * i) = nI (HF i) ∧ mmade (4 * i + 1) = nI (HO i) ∧ mmade (4 * i + 2) = nI (HI i) ∧ mmade (4 * i + 3) = nI (hoN HF i)
def SearchL (L : List Met1) (sz : Int32) (st cf hl : Nat → Int32) : Prop :=
  sz = nI L.length ∧ ∀ i e, L[i]? = some e → st i = nI (encS e.1) ∧ (0 < i → cf i = nI e.2.1 ∧ hl i = nI (e.2.2.1 * 4096 + e.2.2.2.1 * 64 + e.2.2.2.2))
def RT (fb : Nat → Int32) (sz : Int32) (ft : Nat → Int32) (tz : Int32) : Prop := ∃ n : Nat, n ≤ 40 ∧ sz = nI n ∧ tz = nI n ∧ ∀ i, i < n → fb i = ft i ∧ ∃ c : Nat, c < 256 ∧ ft i = nI c
def RD (lf lr lt lst lsz : Int32) (lw ls lwa lsa lrow : Nat → Int32) (sea ssz : Int32) (sst scf shl : Nat → Int32) (mf mr mt mho mfl mh : Int32) (mat mw ms mmade : Nat → Int32) : Prop :=
  ∃ (n r t h : Nat) (w b HF HO HI : Nat → Nat) (s : List Nat), Core n r t h w b HF HO HI s lf lr lt lst lsz lw ls lwa lsa lrow mf mr mt mho mfl mh mat mw ms mmade ∧ (sea = 0 ∨ (sea = 1 ∧ SearchL (bfs n w s) ssz sst scf shl))
def RE (sz : Int32) (sf sn : Nat → Int32) (mz : Int32) (mf mn : Nat → Int32) : Prop := ∃ (k : Nat) (SF SN : Nat → Nat), k ≤ 8 ∧ sz = nI k ∧ mz = nI k ∧ ∀ i, i < k → SF i < 6 ∧ 1 ≤ SN i ∧ SN i ≤ 6 ∧ sf i = nI (SF i) ∧ mf i = nI (SF i) ∧ sn i = nI (SN i) ∧ mn i = nI (SN i)
def RC (lt mt : Nat → Int32) : Prop := ∃ T : Nat → Nat, ∀ k, k < 6 → T k ≤ 10 ∧ lt k = nI (T k) ∧ mt k = nI (T k)
/-- a ride that is kept: addresses (itself, house, row, wants, stands, wantAt, standAt), numbers (state, size, floors, riders, strangers), rows (row, wants, stands, wantAt, standAt) -/
abbrev KD : Type := (Nat → Nat) × (Nat → Int32) × (Nat → Nat → Int32)
abbrev kW (cI : ClassId) (d : KD) : va_W := [ob (d.1 0) 4 [.ref (d.1 1), .int (d.2.1 0), .ref (d.1 2), .int (d.2.1 1)], ob (d.1 1) 2 [.int (d.2.1 2), .int (d.2.1 3), .int (d.2.1 4), .ref (d.1 3), .ref (d.1 4), .ref (d.1 5), .ref (d.1 6)], aI cI (d.1 3) 4 (d.2.2 1), aI cI (d.1 4) 4 (d.2.2 2), aI cI (d.1 5) 6 (d.2.2 3), aI cI (d.1 6) 6 (d.2.2 4), aI cI (d.1 2) 24 (d.2.2 0)]
def kWo (cI : ClassId) : Option KD → va_W
  | none => []
  | some d => kW cI d
def RK1 (j : Nat) (ik kp : Nat → Int32) : Option KD → Prop
  | none => ik j = 0
  | some d => ik j = 1 ∧ ∃ (n r t h : Nat) (w b HF HO HI : Nat → Nat) (s : List Nat), Core n r t h w b HF HO HI s (d.2.1 2) (d.2.1 3) (d.2.1 4) (d.2.1 0) (d.2.1 1) (d.2.2 1) (d.2.2 2) (d.2.2 3) (d.2.2 4) (d.2.2 0)
      (kp (120 * j + 110)) (kp (120 * j + 111)) (kp (120 * j + 112)) (kp (120 * j + 113)) (kp (120 * j + 114)) (kp (120 * j + 115)) (fun k => kp (120 * j + 96 + k)) (fun k => kp (120 * j + 102 + k)) (fun k => kp (120 * j + 106 + k)) (fun k => kp (120 * j + k))
def RK (fk : Nat → Option Nat) (k0 k1 : Option KD) (ik kp : Nat → Int32) : Prop :=
  fk 0 = k0.map (fun d => d.1 0) ∧ fk 1 = k1.map (fun d => d.1 0) ∧ (∀ j, 2 ≤ j → fk j = none) ∧ RK1 0 ik kp k0 ∧ RK1 1 ik kp k1
