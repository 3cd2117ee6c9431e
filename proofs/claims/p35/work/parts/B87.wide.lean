/-! the reference's wide sums -/
section WGJ
variable {I : Nat → Nat → Int32} {J : Nat → Nat → Int64} {R : Nat → Nat → Option Nat} {l s v : Nat → Int32}
end WGJ
/-- a sum that is being made -/
def R4 (I I' : Nat → Nat → Int32) : Prop := ∀ x k, x ≠ 4562 → x ≠ 4563 → x ≠ 4564 → ¬ (x = 4561 ∧ k = 69) → I' x k = I x k
section WGM
variable {I : Nat → Nat → Int32} {J : Nat → Nat → Int64} {R : Nat → Nat → Option Nat}
end WGM
