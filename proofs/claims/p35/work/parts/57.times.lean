/-! the reference's whole numbers: times -/
theorem i64_nat {x : Nat} (h : x < 2147483648) : (Int32.ofNat x).toInt64 = Int64.ofNat x := by
  apply Int64.toInt_inj.mp
  rw [Int32.toInt_toInt64, i32_toInt h, Int64.toInt_ofNat_of_lt (by omega)]
theorem i64_add (x y : Nat) : Int64.ofNat x + Int64.ofNat y = Int64.ofNat (x + y) := (Int64.ofNat_add x y).symm
theorem i64_mul (x y : Nat) : Int64.ofNat x * Int64.ofNat y = Int64.ofNat (x * y) := (Int64.ofNat_mul x y).symm
def cm (u d b k : Nat) : Nat := (u % Bp k + d * (b % Bp k)) / Bp k
def mx (l : Nat → Int32) (t T T' z m : Nat) : Nat → Int32 := fun x => if 440 * t ≤ x ∧ x < 440 * t + z then Int32.ofNat (dg (if x - 440 * t < m then T' else T) (x - 440 * t)) else l x
section GH
variable {I : Nat → Nat → Int32} {J : Nat → Nat → Int64} {R : Nat → Nat → Option Nat} {l s v : Nat → Int32}
end GH
