/-! the reference's values: put, whole ones, compared -/
theorem rz_cop1 {z : Int} {D : Nat} (h : Nat.gcd z.natAbs D = 1) : rz z D = z ∧ rd z D = D ∧ (Fits z D ↔ z.natAbs < 2 ^ 200 ∧ D < 2 ^ 200) := by
  unfold rz rd Fits
  rw [h, Nat.div_one, Nat.div_one]
  exact ⟨Int.sign_mul_natAbs z, rfl, Iff.rfl⟩
section MW
variable {I : Nat → Nat → Int32} {J : Nat → Nat → Int64} {R : Nat → Nat → Option Nat}
end MW
