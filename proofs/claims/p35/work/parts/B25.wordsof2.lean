/-! the reference spells a tree: the loop -/
theorem tF_s (x : Nat) (o : List Nat) : tF (x :: o) o.length = x := if_pos rfl
theorem tF_n {x : Nat} {o : List Nat} {j : Nat} (h : j < o.length) : tF (x :: o) j = tF o j := if_neg (by omega)
section MWP
variable {I : Nat → Nat → Int32} {J : Nat → Nat → Int64} {R : Nat → Nat → Option Nat} {b : GB} {a n : Nat} {nd : Nat → Nd} {sp : Nat → Nat} {β : Type}
end MWP
