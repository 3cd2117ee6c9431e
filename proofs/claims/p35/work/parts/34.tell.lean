/-! telling an operator -/
def Mf (fx : Nat) (mn : Int32) : Prop := (fx = 2 ∧ (0 : Int32) ≤ mn ∧ mn ≤ 10) ∨ (fx ≠ 2 ∧ (11 : Int32) ≤ mn ∧ mn ≤ 13)
def MeanOK (fx : Nat) (mn : Int32) : Prop := ((100 : Int32) ≤ mn ∧ mn ≤ 125 ∧ mn ≠ 108 ∧ mn ≠ 118) ∨ (¬ ((100 : Int32) ≤ mn ∧ mn ≤ 125 ∧ mn ≠ 108 ∧ mn ≠ 118) ∧ Mf fx mn)
section EU
variable {I : Nat → Nat → Int32} {J : Nat → Nat → Int64} {R : Nat → Nat → Option Nat} {σ : xM}
def OpOK (fx : Nat) (rk sd mn : Int32) : Prop := ((1 : Int32) ≤ rk ∧ rk ≤ 9) ∧ ((0 : Int32) ≤ sd ∧ sd ≤ (if fx = 2 then 2 else 0)) ∧ MeanOK fx mn
end EU
