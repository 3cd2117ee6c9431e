/-! what else the class side needs -/
section EM
variable {I : Nat → Nat → Int32} {J : Nat → Nat → Int64} {R : Nat → Nat → Option Nat} {β : Type} {s : GS}
theorem ogR_0_0 (hR : RA R) : gR (mg (4562 + zn J) I J R) 0 11 0 = some 10 := e_gR (by first | decide | omega) rfl (hR.get (by first | decide | omega) (by first | decide | omega) rfl)
theorem ogR_0_4 (hR : RA R) : gR (mg (4562 + zn J) I J R) 0 11 4 = some 559 := e_gR (by first | decide | omega) rfl (hR.get (by first | decide | omega) (by first | decide | omega) rfl)
theorem ogL_10 : gL (mg (4562 + zn J) I J R) 10 13 = some (60 : Int32) := e_gL (by first | decide | omega) rfl
theorem owC_10 {i v : Int32} : wC (mg (4562 + zn J) I J R) 10 i v = if xvi i 60 = true then some (mg (4562 + zn J) (va_up I 10 (va_up (I 10) i.toNatClampNeg (vp_nar .char v))) J R) else none := e_wC1 (by first | decide | omega) rfl
theorem gr_0_0 {F : Nat → Option β} (hR : RA R) : (gR (mg (4562 + zn J) I J R) 0 11 0).bind F = F 10 := by rw [ogR_0_0 hR]; rfl
theorem gr_0_4 {F : Nat → Option β} (hR : RA R) : (gR (mg (4562 + zn J) I J R) 0 11 4).bind F = F 559 := by rw [ogR_0_4 hR]; rfl
theorem gcw_10 {k : Nat} {v : Int32} {F : xM → Option β} (h : k < 60) : (wC (mg (4562 + zn J) I J R) 10 (Int32.ofNat (k)) v).bind F = F (mg (4562 + zn J) (up I 10 k (vp_nar .char v)) J R) := by rw [owC_10, if_pos (xvi_nat h (by first | decide | omega)), i32_nat (by omega)]; rfl
theorem ga_4559 {k : Nat} {F : Int32 → Option β} (h : k < 80) : (aI (mg (4562 + zn J) I J R) 4559 14 (Int32.ofNat (k))).bind F = F (I 4559 k) := by rw [e_aI (a := 4559) (by first | decide | omega) (show KK 4559 = (14, 80) from rfl) h (by first | decide | omega)]; rfl
theorem ga_4560 {k : Nat} {F : Int32 → Option β} (h : k < 80) : (aI (mg (4562 + zn J) I J R) 4560 14 (Int32.ofNat (k))).bind F = F (I 4560 k) := by rw [e_aI (a := 4560) (by first | decide | omega) (show KK 4560 = (14, 80) from rfl) h (by first | decide | omega)]; rfl
theorem Ext_push {m : Nat} {nd : Nat → Nd} {sp : Nat → Nat} : Ext s.1 s (sPush s m nd sp) := fun t ht =>
  ⟨by show t < s.1 + 1; omega, upN_n (by omega), upN_n (by omega), upN_n (by omega)⟩
end EM
