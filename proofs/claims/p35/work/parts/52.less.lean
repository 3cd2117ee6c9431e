/-! the reference's whole numbers: less, twice, compared -/
def cw (a b i : Nat) : Nat := (2 * (a % Bp i) + b) / Bp i
section GB
variable {I : Nat → Nat → Int32} {J : Nat → Nat → Int64} {R : Nat → Nat → Option Nat} {l s v : Nat → Int32}
end GB
