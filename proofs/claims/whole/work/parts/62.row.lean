/-! PURE ROWS: the row of pairs -/
def rowP : Nat → Nat → Nat → Nat → Nat → List (Nat × Nat)
  | 0, _, _, _, _ => []
  | k + 1, ml, me, o, i =>
    let q := nxP 64 ml me o i
    if q.1 then (q.2.1, q.2.2) :: rowP k ml me q.2.1 q.2.2 else []
def chkP (ml me : Nat) : Bool := if ml &&& me = 0 then (rowP 20 ml me (if me = 0 then 0 else nxS 0 ml) 0 == pairs ml me) && decide ((pairs ml me).length < 20) else true
theorem chkP_all : ((List.range 64).all fun ml => (List.range 64).all fun me => chkP ml me) = true := by decide +kernel
