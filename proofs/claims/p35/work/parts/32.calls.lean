/-! more simple calls -/
theorem u32_nat (u : UInt32) : u.toInt32 = Int32.ofNat u.toNat := by
  show (⟨u⟩ : Int32) = ⟨UInt32.ofNat u.toNat⟩
  rw [UInt32.ofNat_toNat]
theorem ch_dom (x : Int32) : ∃ k, k < 65536 ∧ ch x = Int32.ofNat k := by
  refine ⟨(x.toUInt32 % 65536).toNat, ?_, u32_nat _⟩
  rw [UInt32.toNat_mod]
  exact Nat.mod_lt _ (by first | decide | omega)
theorem nm_dom {c : Int32} (h : (97 : Int32) ≤ c) (h' : c ≤ (122 : Int32)) : ∃ j, j < 26 ∧ c = Int32.ofNat (97 + j) ∧ c - 97 = Int32.ofNat j := by
  rw [Int32.le_iff_toInt_le] at h h'
  have a1 : (97 : Int32).toInt = 97 := by decide
  have a2 : (122 : Int32).toInt = 122 := by decide
  rw [a1] at h
  rw [a2] at h'
  have e : c = Int32.ofNat (97 + (c.toInt - 97).toNat) := by
    rw [← Int32.toInt_inj, i32_toInt (by omega)]
    omega
  refine ⟨(c.toInt - 97).toNat, by omega, e, ?_⟩
  rw [← Int32.toInt_inj, Int32.toInt_sub, a1, i32_toInt (by omega), Int.bmod_def]
  split <;> omega
section EQ
variable {I : Nat → Nat → Int32} {J : Nat → Nat → Int64} {R : Nat → Nat → Option Nat}
end EQ
