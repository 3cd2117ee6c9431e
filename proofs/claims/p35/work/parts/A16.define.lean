/-! calls: define -/
section OK
variable {I : Nat → Nat → Int32} {J : Nat → Nat → Int64} {R : Nat → Nat → Option Nat} {t : GT} {s : GS} {b : GB} {n : GN} {f : GF} {v w : GV} {q : Nat → GV} {p : GT} {r : GR} {h : GH} {β : Type}
theorem c_params {l : Nat} {F : Int32 → Option β} (hR : RA R) (H : CFn I f) (hl : l < 26) : (f_X1_parametersOf (mg (4562 + zn J) I J R) 11 (Int32.ofNat (l))).bind F = F (f l 0) := by
  unfold f_X1_parametersOf f_X1_parametersOf_j22
  rw [if_neg (i32_nlt0 (by omega)), if_pos (show (Int32.ofNat (l)) < (26 : Int32) from (i32_lt (m := 26) (by omega) (by omega)).mpr hl), gr_11_8 hR, g_fun hR hl, show (0 : Int32) = (Int32.ofNat (0)) from rfl, ga_fn ⟨hl, by omega⟩, H l 0 hl (by omega)]
  rfl
theorem c_cases {l : Nat} {F : Int32 → Option β} (hR : RA R) (H : CFn I f) (hl : l < 26) : (f_X1_casesOf (mg (4562 + zn J) I J R) 11 (Int32.ofNat (l))).bind F = F (f l 1) := by
  unfold f_X1_casesOf f_X1_casesOf_j22
  rw [if_neg (i32_nlt0 (by omega)), if_pos (show (Int32.ofNat (l)) < (26 : Int32) from (i32_lt (m := 26) (by omega) (by omega)).mpr hl), gr_11_8 hR, g_fun hR hl, show (1 : Int32) = (Int32.ofNat (1)) from rfl, ga_fn ⟨hl, by omega⟩, H l 1 hl (by omega)]
  rfl
end OK
