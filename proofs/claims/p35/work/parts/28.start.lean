/-! the references at the start -/
def rck (R : Nat → Nat → Option Nat) (x k : Nat) : Bool := match RR x k with | none => true | some y => match R x k with | some z => Nat.beq z y | none => false
def rcx (R : Nat → Nat → Option Nat) (x : Nat) : Bool := (List.range (kb x)).all (fun k => rck R x k)
def rcr (R : Nat → Nat → Option Nat) (a m : Nat) : Bool := (List.range m).all (fun i => rcx R (a + i))
theorem rcr_of {R : Nat → Nat → Option Nat} {a m : Nat} (h : rcr R a m = true) : ∀ x, a ≤ x → x < a + m → ∀ k, k < kb x → RR x k = none ∨ R x k = RR x k := by
  intro x h1 h2 k hk
  have h3 := List.all_eq_true.mp h (x - a) (List.mem_range.mpr (by omega))
  rw [show a + (x - a) = x by omega] at h3
  have h4 := List.all_eq_true.mp h3 k (List.mem_range.mpr hk)
  unfold rck at h4
  split at h4
  · next e => exact Or.inl e
  · next y e =>
    split at h4
    · next z e2 => rw [e, e2, Nat.eq_of_beq_eq_true h4]; exact Or.inr rfl
    · cases h4
theorem RA_0 : rcr Rk_166 0 11 = true := by decide +kernel
theorem RA_11 : rcr Rk_166 11 107 = true := by decide +kernel
theorem RA_118 : rcr Rk_166 118 200 = true := by decide +kernel
theorem RA_318 : rcr Rk_166 318 200 = true := by decide +kernel
theorem RA_518 : rcr Rk_166 518 45 = true := by decide +kernel
theorem RA_563 : rcr Rk_166 563 5 = true := by decide +kernel
theorem RA_568 : rcr Rk_166 568 7 = true := by decide +kernel
theorem RA_575 : rcr Rk_166 575 1 = true := by decide +kernel
theorem RA_576 : rcr Rk_166 576 200 = true := by decide +kernel
theorem RA_776 : rcr Rk_166 776 200 = true := by decide +kernel
theorem RA_976 : rcr Rk_166 976 200 = true := by decide +kernel
theorem RA_1176 : rcr Rk_166 1176 200 = true := by decide +kernel
theorem RA_1376 : rcr Rk_166 1376 200 = true := by decide +kernel
theorem RA_1576 : rcr Rk_166 1576 200 = true := by decide +kernel
theorem RA_1776 : rcr Rk_166 1776 115 = true := by decide +kernel
theorem RA_1891 : rcr Rk_166 1891 200 = true := by decide +kernel
theorem RA_2091 : rcr Rk_166 2091 124 = true := by decide +kernel
theorem RA_2215 : rcr Rk_166 2215 1 = true := by decide +kernel
theorem RA_2216 : rcr Rk_166 2216 1 = true := by decide +kernel
theorem RA_2217 : rcr Rk_166 2217 200 = true := by decide +kernel
theorem RA_2417 : rcr Rk_166 2417 200 = true := by decide +kernel
theorem RA_2617 : rcr Rk_166 2617 200 = true := by decide +kernel
theorem RA_2817 : rcr Rk_166 2817 200 = true := by decide +kernel
theorem RA_3017 : rcr Rk_166 3017 200 = true := by decide +kernel
theorem RA_3217 : rcr Rk_166 3217 200 = true := by decide +kernel
theorem RA_3417 : rcr Rk_166 3417 200 = true := by decide +kernel
theorem RA_3617 : rcr Rk_166 3617 200 = true := by decide +kernel
theorem RA_3817 : rcr Rk_166 3817 200 = true := by decide +kernel
theorem RA_4017 : rcr Rk_166 4017 200 = true := by decide +kernel
theorem RA_4217 : rcr Rk_166 4217 200 = true := by decide +kernel
theorem RA_4417 : rcr Rk_166 4417 200 = true := by decide +kernel
theorem RA_all : RA Rk_166 := by
  intro x hx k hk
  by_cases q : x < 11
  · exact rcr_of RA_0 x (by omega) q k hk
  by_cases q : x < 118
  · exact rcr_of RA_11 x (by omega) q k hk
  by_cases q : x < 318
  · exact rcr_of RA_118 x (by omega) q k hk
  by_cases q : x < 518
  · exact rcr_of RA_318 x (by omega) q k hk
  by_cases q : x < 563
  · exact rcr_of RA_518 x (by omega) q k hk
  by_cases q : x < 568
  · exact rcr_of RA_563 x (by omega) q k hk
  by_cases q : x < 575
  · exact rcr_of RA_568 x (by omega) q k hk
  by_cases q : x < 576
  · exact rcr_of RA_575 x (by omega) q k hk
  by_cases q : x < 776
  · exact rcr_of RA_576 x (by omega) q k hk
  by_cases q : x < 976
  · exact rcr_of RA_776 x (by omega) q k hk
  by_cases q : x < 1176
  · exact rcr_of RA_976 x (by omega) q k hk
  by_cases q : x < 1376
  · exact rcr_of RA_1176 x (by omega) q k hk
  by_cases q : x < 1576
  · exact rcr_of RA_1376 x (by omega) q k hk
  by_cases q : x < 1776
  · exact rcr_of RA_1576 x (by omega) q k hk
  by_cases q : x < 1891
  · exact rcr_of RA_1776 x (by omega) q k hk
  by_cases q : x < 2091
  · exact rcr_of RA_1891 x (by omega) q k hk
  by_cases q : x < 2215
  · exact rcr_of RA_2091 x (by omega) q k hk
  by_cases q : x < 2216
  · exact rcr_of RA_2215 x (by omega) q k hk
  by_cases q : x < 2217
  · exact rcr_of RA_2216 x (by omega) q k hk
  by_cases q : x < 2417
  · exact rcr_of RA_2217 x (by omega) q k hk
  by_cases q : x < 2617
  · exact rcr_of RA_2417 x (by omega) q k hk
  by_cases q : x < 2817
  · exact rcr_of RA_2617 x (by omega) q k hk
  by_cases q : x < 3017
  · exact rcr_of RA_2817 x (by omega) q k hk
  by_cases q : x < 3217
  · exact rcr_of RA_3017 x (by omega) q k hk
  by_cases q : x < 3417
  · exact rcr_of RA_3217 x (by omega) q k hk
  by_cases q : x < 3617
  · exact rcr_of RA_3417 x (by omega) q k hk
  by_cases q : x < 3817
  · exact rcr_of RA_3617 x (by omega) q k hk
  by_cases q : x < 4017
  · exact rcr_of RA_3817 x (by omega) q k hk
  by_cases q : x < 4217
  · exact rcr_of RA_4017 x (by omega) q k hk
  by_cases q : x < 4417
  · exact rcr_of RA_4217 x (by omega) q k hk
  exact rcr_of RA_4417 x (by omega) (by omega) k hk
