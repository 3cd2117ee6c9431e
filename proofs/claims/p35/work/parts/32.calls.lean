/-! more simple calls -/
theorem u32_nat (u : UInt32) : u.toInt32 = Int32.ofNat u.toNat := by
  show (⟨u⟩ : Int32) = ⟨UInt32.ofNat u.toNat⟩
  rw [UInt32.ofNat_toNat]
section EQ
variable {I : Nat → Nat → Int32} {J : Nat → Nat → Int64} {R : Nat → Nat → Option Nat}
end EQ
