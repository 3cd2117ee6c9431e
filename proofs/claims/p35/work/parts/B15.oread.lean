/-! call: read -/
section OR
variable {I : Nat → Nat → Int32} {J : Nat → Nat → Int64} {R : Nat → Nat → Option Nat} {t : GT} {s : GS} {b : GB} {n : GN} {f : GF} {v : GV} {q : Nat → GV} {p : GT} {r : GR} {h : GH} {β : Type}
theorem resC_1 {P : Nat → Nat} {len : Nat} {x : Wi × PS ⊕ PS} (h : (acc x).isSome = true) : resC P len x = -1 := by
  cases x with
  | inl y => cases h
  | inr y => exact if_pos h
theorem resC_n {P : Nat → Nat} {len : Nat} {x : Wi × PS ⊕ PS} (hl : len < 1000) (hP : ∀ w s, x = .inl (w, s) → flt P w s < 100000) (h : ¬ (acc x).isSome = true) : ∃ k, k < 2147483648 ∧ resC P len x = (Int32.ofNat (k)) := by
  cases x with
  | inl y =>
    obtain ⟨w, s⟩ := y
    exact ⟨_, by have := hP w s rfl; omega, rfl⟩
  | inr y => exact ⟨len, by omega, if_neg h⟩
theorem i32_m1 {k : Nat} (hk : k < 2147483648) : ¬ (Int32.ofNat (k)) = (-1 : Int32) := fun y => by
  have := i32_0le hk
  rw [y] at this
  exact absurd this (by first | decide | omega)
end OR
