/-! the reference's values: an interface over the whole memory -/
/-- three rows of the reference are changed at most, the wide registers stay -/
def R3 (I I' : Nat → Nat → Int32) : Prop := FrS (fun x => x = 4562 ∨ x = 4563 ∨ x = 4564) I I' ∧ Kl (I 4562) (I 4563) (I' 4562) (I' 4563) AR
section MV
variable {I : Nat → Nat → Int32} {J : Nat → Nat → Int64} {R : Nat → Nat → Option Nat}
end MV
