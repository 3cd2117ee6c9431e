/-! polynomials, for both sides -/
abbrev Fit (q : Rat) : Prop := q.num.natAbs < 2 ^ 200 ∧ q.den < 2 ^ 200
def gv (q : Rat) : GV := (q.num, q.den)
def qf (q : Rat) : Nat ⊕ GV := if Fit q then .inr (gv q) else .inl 3
