/-! simple facts of both sides, without trees -/
section EP
variable {I : Nat → Nat → Int32} {J : Nat → Nat → Int64} {R : Nat → Nat → Option Nat}
theorem c_needName1 {σ : xM} {l : Nat} {c : Int32} (h : (97 : Int32) ≤ c) (h' : c ≤ (122 : Int32)) : f_X11_needName σ l c = some (.inl ()) := by
  unfold f_X11_needName
  rw [if_neg (Int32.not_lt.mpr h), if_pos h']
theorem c_letterOf1 {c : Int32} (h : (97 : Int32) ≤ c) (h' : c ≤ (122 : Int32)) : f_X11_letterOf (mg (4562 + zn J) I J R) 0 c = some (.inl (c - 97)) := by
  unfold f_X11_letterOf
  rw [if_pos ok_0, c_needName1 h h']
  rfl
end EP
