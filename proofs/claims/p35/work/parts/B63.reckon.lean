/-! calls: reckon -/
section ORK
variable {I : Nat → Nat → Int32} {J : Nat → Nat → Int64} {R : Nat → Nat → Option Nat} {t : GT} {s : GS} {b : GB} {n : GN} {f : GF} {v : GV} {q : Nat → GV} {p : GT} {r : GR} {h : GH} {β : Type}
theorem lazy_bk {x : Nd} (hn : NV b x) : lazyNd x ∨ bkN x = 0 := by
  obtain ⟨b1, b2, b3⟩ := NV_bk hn
  rcases b3 with y | y | y
  · exact Or.inr y
  · exact Or.inl ⟨(b1.mp y).1, Or.inl (b1.mp y).2⟩
  · exact Or.inl ⟨(b2.mp y).1, Or.inr (b2.mp y).2⟩
end ORK
