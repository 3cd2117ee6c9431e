/-! tell -/
section EW
variable {I : Nat → Nat → Int32} {J : Nat → Nat → Int64} {R : Nat → Nat → Option Nat}
theorem c_isSign0 {k : Nat} (hR : RA R) (h12 : I 12 = plc) (hk : k < 65536) (h : 128 ≤ k ∨ plc k = -1) : f_X1_isSign (mg (4562 + zn J) I J R) 11 (Int32.ofNat k) = some 0 := by
  unfold f_X1_isSign
  refine xb_iq ok_11 (xb_eq (c_slot0 hR h12 hk h) ?_)
  rw [if_pos (by first | decide | omega)]
  rfl
theorem c_isSign1 {k p : Nat} (hR : RA R) (h12 : I 12 = plc) (hk : k < 128) (hp : plc k = Int32.ofNat p) (hp2 : p < 16) : f_X1_isSign (mg (4562 + zn J) I J R) 11 (Int32.ofNat k) = some 1 := by
  unfold f_X1_isSign
  refine xb_iq ok_11 (xb_eq (c_slot1 (fx := 0) hR h12 hk hp hp2 (by first | decide | omega)) ?_)
  rw [if_neg (i32_nlt0 (by omega))]
  rfl
end EW
