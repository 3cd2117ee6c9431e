/-! clashes, notes, tell -/
theorem KK_20 (i : Nat) (hi : i < 26) : KK (20 + i) = (14, 10) := by
  unfold KK
  rw [if_pos (by omega), if_pos (by omega), if_pos (by omega), if_neg (by omega), if_neg (by omega), if_neg (by omega), if_neg (by omega), if_neg (by omega)]
theorem KK_49 (i : Nat) (hi : i < 20) : KK (49 + i) = (14, 10) := by
  unfold KK
  rw [if_pos (by omega), if_pos (by omega), if_neg (by omega), if_pos (by omega), if_pos (by omega), if_neg (by omega), if_neg (by omega), if_pos (by omega)]
theorem i32_mod20 : ∀ a, a < 40 → Int32.ofNat a - Int32.ofNat a / 20 * 20 = Int32.ofNat (a % 20) := by decide +kernel
section EV
variable {I : Nat → Nat → Int32} {J : Nat → Nat → Int64} {R : Nat → Nat → Option Nat}
/-! notes of changes -/
end EV
