/-! the reference's reader: words, and the whole reading -/
section RN
variable {I : Nat → Nat → Int32} {J : Nat → Nat → Int64} {R : Nat → Nat → Option Nat} {b : GB} {β : Type} {m : Nat} {W : Nat → Wd} {P : Nat → Nat} {g : Nat → Bool}
theorem lnF_mem : ∀ (ln : List Ln) (i : Nat), i < ln.length → ∃ x, x ∈ ln ∧ lnF ln i = x.1 := by
  intro ln
  induction ln with
  | nil => intro i hi; exact absurd hi (Nat.not_lt_zero _)
  | cons y l ih =>
    intro i hi
    show ∃ x, x ∈ y :: l ∧ ext (lnF l) l.length y.1 i = x.1
    unfold ext
    by_cases z : i = l.length
    · rw [if_pos z]
      exact ⟨y, List.mem_cons_self .., rfl⟩
    · rw [if_neg z]
      rw [List.length_cons] at hi
      obtain ⟨x, h1, h2⟩ := ih i (by omega)
      exact ⟨x, List.mem_cons_of_mem _ h1, h2⟩
end RN
