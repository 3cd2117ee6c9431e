/-! calls: part, graft -/
theorem dWk : KK 4551 = (9, 0) ∧ ∀ k, k < 7 → RR 4551 k = some (4551 + (k + 1)) ∧ KK (4551 + (k + 1)) = (14, 80) := by decide +kernel
theorem isTr_4551 : isTr 4551 := ⟨by omega, by omega, dWk.1, dWk.2⟩
section OD
variable {I : Nat → Nat → Int32} {J : Nat → Nat → Int64} {R : Nat → Nat → Option Nat} {t : GT} {s : GS} {b : GB} {n : GN} {f : GF} {v : GV} {q : Nat → GV} {p : GT} {r : GR} {h : GH} {β : Type}
theorem C_room1 {F : Unit ⊕ String → Option β} (hR : RA R) (H : CSh I s) (hk : s.1 < 30) : (f_X11_needRoom (mg (4562 + zn J) I J R) 0).bind F = F (.inl ()) := by
  unfold f_X11_needRoom
  rw [gr_0_2 hR, gi_11, H.2.1, gr_0_2 hR, gr_11_4 hR, ogL_16, Option.bind_some, if_pos (show (Int32.ofNat (s.1)) < (30 : Int32) from (i32_lt (m := 30) (by omega) (by omega)).mpr hk)]
  rfl
end OD
