/-! a tree in place of names -/
def repl (nd : Nat → Nd) (c : Int32) (x : Nat) : Bool := decide ((nd x).1 = 1 ∧ (nd x).2.1 = c ∧ ¬ (0 < x ∧ (nd (x - 1)).1 = 2 ∧ (nd (x - 1)).2.1 = 115))
def gc (nd : Nat → Nd) (c : Int32) (m : Nat) : Nat → Nat
  | 0 => 0
  | k + 1 => gc nd c m k + (if repl nd c k = true then m else 1)
def gb (nd : Nat → Nd) (c : Int32) (m : Nat) (nd' : Nat → Nd) : Nat → Nat → Nd
  | 0 => nd
  | k + 1 => if repl nd c k = true then app (gb nd c m nd' k) (gc nd c m k) nd' 0 else ext (gb nd c m nd' k) (gc nd c m k) (nd k)
section CTY
variable {I : Nat → Nat → Int32} {J : Nat → Nat → Int64} {R : Nat → Nat → Option Nat} {a b d n m : Nat} {nd nd' : Nat → Nd} {sp sp' : Nat → Nat} {β : Type}
end CTY
