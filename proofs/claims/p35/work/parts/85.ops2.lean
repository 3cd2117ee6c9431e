/-! powers, factorials, operators of the reference -/
theorem clp_cmp {z : Int} {k : Int} (hk : -1000 ≤ k ∧ k ≤ 1000) : (clp z < k ↔ z < k) ∧ (k < clp z ↔ k < z) ∧ -1073741824 ≤ clp z ∧ clp z ≤ 1073741824 ∧ (-1000 ≤ z ∧ z ≤ 1000 → clp z = z) := by
  unfold clp
  by_cases q : z.natAbs < 1073741824
  · rw [if_pos q]
    omega
  · rw [if_neg q]
    split <;> omega
theorem ofInt_le {a b : Int} (h : -2147483648 ≤ a ∧ a < 2147483648 ∧ -2147483648 ≤ b ∧ b < 2147483648) : Int32.ofInt a ≤ Int32.ofInt b ↔ a ≤ b := by
  rw [Int32.le_iff_toInt_le, Int32.toInt_ofInt_of_le (by omega) (by omega), Int32.toInt_ofInt_of_le (by omega) (by omega)]
theorem ofInt_lt {a b : Int} (h : -2147483648 ≤ a ∧ a < 2147483648 ∧ -2147483648 ≤ b ∧ b < 2147483648) : Int32.ofInt a < Int32.ofInt b ↔ a < b := by
  rw [Int32.lt_iff_toInt_lt, Int32.toInt_ofInt_of_le (by omega) (by omega), Int32.toInt_ofInt_of_le (by omega) (by omega)]
section MZ
variable {I : Nat → Nat → Int32} {J : Nat → Nat → Int64} {R : Nat → Nat → Option Nat}
end MZ
