/-! the reference shelves -/
section SM
variable {I : Nat → Nat → Int32} {J : Nat → Nat → Int64} {R : Nat → Nat → Option Nat} {t : GT} {s : GS} {b : GB} {n : GN} {f : GF} {v : GV} {q : Nat → GV} {p : GT} {r : GR} {h : GH} {β : Type}
theorem OKH_top (HO : OKH s b f h) : StOK s s.1 b f := by
  obtain ⟨hT, hB, hF, h1, h2, h3, h4, -⟩ := HO
  have := h4 h.1 (Nat.le_refl _)
  rw [h1, h2, h3] at this
  exact this
end SM
