/-! calls: slope -/
section OSL
variable {I : Nat → Nat → Int32} {J : Nat → Nat → Int64} {R : Nat → Nat → Option Nat} {t : GT} {s : GS} {b : GB} {n : GN} {f : GF} {v : GV} {q : Nat → GV} {p : GT} {r : GR} {h : GH} {β : Type}
theorem C_result8 {F : Nat → Option β} (hR : RA R) : (f_X8_result (mg (4562 + zn J) I J R) 1784).bind F = F 1806 := by
  unfold f_X8_result
  rw [gr_1784_2 hR, show ((aR (mg (4562 + zn J) I J R) 1785 16 0).bind id).bind (fun x2 => some x2) = some 1806 from C_prt (k := 0) hR (by omega)]
  rfl
end OSL
