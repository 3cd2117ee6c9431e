/-! the reference's run follows ev: turns, operands -/
theorem NV_bk {b : GB} {x : Nd} (h : NV b x) : (bkN x = 1 ↔ x.1 = 2 ∧ x.2.1 = 105) ∧ (bkN x = 2 ↔ x.1 = 2 ∧ x.2.1 = 115) ∧ (bkN x = 0 ∨ bkN x = 1 ∨ bkN x = 2) := by
  obtain ⟨x1, x2, -⟩ := NV_v h
  have ev105 : (x.2.1 = 105) ↔ vN x = 105 := by
    rw [x1]
    exact i32_eq (m := 105) (by omega) (by omega)
  have ev115 : (x.2.1 = 115) ↔ vN x = 115 := by
    rw [x1]
    exact i32_eq (m := 115) (by omega) (by omega)
  rw [ev105, ev115]
  unfold bkN
  by_cases q1 : x.1 = 2 ∧ vN x = 105
  · rw [if_pos q1]
    refine ⟨⟨fun _ => q1, fun _ => rfl⟩, ⟨fun y => absurd y (by first | decide | omega), fun y => ?_⟩, by decide⟩
    have := q1.2
    have := y.2
    omega
  · rw [if_neg q1]
    by_cases q2 : x.1 = 2 ∧ vN x = 115
    · rw [if_pos q2]
      exact ⟨⟨fun y => absurd y (by first | decide | omega), fun y => absurd y q1⟩, ⟨fun _ => q2, fun _ => rfl⟩, by decide⟩
    · rw [if_neg q2]
      exact ⟨⟨fun y => absurd y (by first | decide | omega), fun y => absurd y q1⟩, ⟨fun y => absurd y (by first | decide | omega), fun y => absurd y q2⟩, by decide⟩
section RG
variable {I : Nat → Nat → Int32} {J : Nat → Nat → Int64} {R : Nat → Nat → Option Nat} {β : Type} {h t c d w u a nn i : Nat} {nd : Nat → Nd} {sp : Nat → Nat} {b : GB} {n : GN} {f : GF} {s : GS} {z stage : Int32} {F : Nat} {rec : Rc} {ch : Ch}
end RG
