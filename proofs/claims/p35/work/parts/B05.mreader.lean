/-! the reference's reader: its rows, and what one word does -/
/-- the rank that one without brackets gives to its neighbours -/
def nb (b : GB) (x : Nd) : Nat := if x.1 = 3 ∧ x.2.2.1 = 2 then (if sdN b (plN x.2.1.toNatClampNeg) = 2 then rkN b (plN x.2.1.toNatClampNeg) 2 else 0) else 0
def lsF : List Ln → Nat → Nat
  | [] => fun _ => 0
  | x :: l => fun i => if i = l.length then x.2 else lsF l i
section RM
variable {I : Nat → Nat → Int32} {J : Nat → Nat → Int64} {R : Nat → Nat → Option Nat} {b : GB} {β : Type} {m : Nat} {W : Nat → Wd} {P : Nat → Nat} {g : Nat → Bool}
end RM
