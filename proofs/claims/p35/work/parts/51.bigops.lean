/-! the reference's whole numbers: together, less, twice -/
theorem i32_sub_le {x y : Nat} (h : y ≤ x) : Int32.ofNat x - Int32.ofNat y = Int32.ofNat (x - y) := by
  rw [Int32.sub_eq_iff_eq_add, ← Int32.ofNat_add, show x - y + y = x by omega]
section GA
variable {I : Nat → Nat → Int32} {J : Nat → Nat → Int64} {R : Nat → Nat → Option Nat} {l s v : Nat → Int32}
end GA
