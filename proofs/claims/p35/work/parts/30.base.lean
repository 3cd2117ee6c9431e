/-! the objects that are alone of their kind: what each access gives -/
section EO
variable {I : Nat → Nat → Int32} {J : Nat → Nat → Int64} {R : Nat → Nat → Option Nat}
theorem e_sZ1 {n a c k : Nat} {v : Int32} (ha : a < n) (hk : (KK a).1 = c) : sZ (mg n I J R) a c k v = if (v == 0 || v == 1) = true then some (mg n (va_up I a (va_up (I a) k v)) J R) else none := by
  unfold sZ
  rw [me_xk ha hk, Bool.true_and]
  rfl
theorem e_k2 {n a kd len : Nat} (ha : a < n) (hk : KK a = (kd, len)) : xk (mg n I J R) a kd = true ∧ ((mg n I J R).2.1 a).2 = len := by
  refine ⟨me_xk ha (by rw [hk]), ?_⟩
  show (ct n a).2 = len
  rw [ct_lt ha, hk]
theorem e_aI1 {n a kd len : Nat} {i : Int32} (ha : a < n) (hk : KK a = (kd, len)) : aI (mg n I J R) a kd i = if xvi i len = true then some (I a i.toNatClampNeg) else none := by
  unfold aI
  rw [(e_k2 ha hk).1, (e_k2 ha hk).2, Bool.true_and]
theorem e_aR1 {n a kd len : Nat} {i : Int32} (ha : a < n) (hk : KK a = (kd, len)) : aR (mg n I J R) a kd i = if xvi i len = true then some (R a i.toNatClampNeg) else none := by
  unfold aR
  rw [(e_k2 ha hk).1, (e_k2 ha hk).2, Bool.true_and]
theorem e_wC1 {n a len : Nat} {i v : Int32} (ha : a < n) (hk : KK a = (13, len)) : wC (mg n I J R) a i v = if xvi i len = true then some (mg n (va_up I a (va_up (I a) i.toNatClampNeg (vp_nar .char v))) J R) else none := by
  unfold wC
  rw [(e_k2 ha hk).1, (e_k2 ha hk).2, Bool.true_and]
  rfl
theorem e_wZ1 {n a len : Nat} {i v : Int32} (ha : a < n) (hk : KK a = (15, len)) : wZ (mg n I J R) a i v = if (xvi i len && (v == 0 || v == 1)) = true then some (mg n (va_up I a (va_up (I a) i.toNatClampNeg v)) J R) else none := by
  unfold wZ
  rw [(e_k2 ha hk).1, (e_k2 ha hk).2, Bool.true_and]
  rfl
theorem ok_0 : xk (mg (4562 + zn J) I J R) 0 11 = true := me_xk (by first | decide | omega) rfl
theorem ogI_0 {k : Nat} : gI (mg (4562 + zn J) I J R) 0 11 k = some (I 0 k) := e_gI (by first | decide | omega) rfl
theorem osI_0 {k : Nat} {v : Int32} : sI (mg (4562 + zn J) I J R) 0 11 k v = some (mg (4562 + zn J) (va_up I 0 (va_up (I 0) k v)) J R) := e_sI (by first | decide | omega) rfl
theorem ogR_0_2 (hR : RA R) : gR (mg (4562 + zn J) I J R) 0 11 2 = some 11 := e_gR (by first | decide | omega) rfl (hR.get (by first | decide | omega) (by first | decide | omega) rfl)
theorem ogR_0_3 (hR : RA R) : gR (mg (4562 + zn J) I J R) 0 11 3 = some 540 := e_gR (by first | decide | omega) rfl (hR.get (by first | decide | omega) (by first | decide | omega) rfl)
theorem ogR_0_5 (hR : RA R) : gR (mg (4562 + zn J) I J R) 0 11 5 = some 563 := e_gR (by first | decide | omega) rfl (hR.get (by first | decide | omega) (by first | decide | omega) rfl)
theorem ogR_0_6 (hR : RA R) : gR (mg (4562 + zn J) I J R) 0 11 6 = some 567 := e_gR (by first | decide | omega) rfl (hR.get (by first | decide | omega) (by first | decide | omega) rfl)
theorem ogR_0_7 (hR : RA R) : gR (mg (4562 + zn J) I J R) 0 11 7 = some 1784 := e_gR (by first | decide | omega) rfl (hR.get (by first | decide | omega) (by first | decide | omega) rfl)
theorem ogR_0_8 (hR : RA R) : gR (mg (4562 + zn J) I J R) 0 11 8 = some 2206 := e_gR (by first | decide | omega) rfl (hR.get (by first | decide | omega) (by first | decide | omega) rfl)
theorem ogR_0_10 (hR : RA R) : gR (mg (4562 + zn J) I J R) 0 11 10 = some 4541 := e_gR (by first | decide | omega) rfl (hR.get (by first | decide | omega) (by first | decide | omega) rfl)
theorem ogR_0_11 (hR : RA R) : gR (mg (4562 + zn J) I J R) 0 11 11 = some 4546 := e_gR (by first | decide | omega) rfl (hR.get (by first | decide | omega) (by first | decide | omega) rfl)
theorem ogR_0_12 (hR : RA R) : gR (mg (4562 + zn J) I J R) 0 11 12 = some 4551 := e_gR (by first | decide | omega) rfl (hR.get (by first | decide | omega) (by first | decide | omega) rfl)
theorem ogR_0_13 (hR : RA R) : gR (mg (4562 + zn J) I J R) 0 11 13 = some 4559 := e_gR (by first | decide | omega) rfl (hR.get (by first | decide | omega) (by first | decide | omega) rfl)
theorem ogR_0_14 (hR : RA R) : gR (mg (4562 + zn J) I J R) 0 11 14 = some 4560 := e_gR (by first | decide | omega) rfl (hR.get (by first | decide | omega) (by first | decide | omega) rfl)
theorem ok_1 : xk (mg (4562 + zn J) I J R) 1 0 = true := me_xk (by first | decide | omega) rfl
theorem ogR_1_0 (hR : RA R) : gR (mg (4562 + zn J) I J R) 1 0 0 = some 2 := e_gR (by first | decide | omega) rfl (hR.get (by first | decide | omega) (by first | decide | omega) rfl)
theorem ogR_1_1 (hR : RA R) : gR (mg (4562 + zn J) I J R) 1 0 1 = some 4 := e_gR (by first | decide | omega) rfl (hR.get (by first | decide | omega) (by first | decide | omega) rfl)
theorem ogR_1_2 (hR : RA R) : gR (mg (4562 + zn J) I J R) 1 0 2 = some 6 := e_gR (by first | decide | omega) rfl (hR.get (by first | decide | omega) (by first | decide | omega) rfl)
theorem ogR_1_3 (hR : RA R) : gR (mg (4562 + zn J) I J R) 1 0 3 = some 8 := e_gR (by first | decide | omega) rfl (hR.get (by first | decide | omega) (by first | decide | omega) rfl)
theorem ok_11 : xk (mg (4562 + zn J) I J R) 11 1 = true := me_xk (by first | decide | omega) rfl
theorem ogI_11 {k : Nat} : gI (mg (4562 + zn J) I J R) 11 1 k = some (I 11 k) := e_gI (by first | decide | omega) rfl
theorem osI_11 {k : Nat} {v : Int32} : sI (mg (4562 + zn J) I J R) 11 1 k v = some (mg (4562 + zn J) (va_up I 11 (va_up (I 11) k v)) J R) := e_sI (by first | decide | omega) rfl
theorem ogR_11_0 (hR : RA R) : gR (mg (4562 + zn J) I J R) 11 1 0 = some 12 := e_gR (by first | decide | omega) rfl (hR.get (by first | decide | omega) (by first | decide | omega) rfl)
theorem ogR_11_1 (hR : RA R) : gR (mg (4562 + zn J) I J R) 11 1 1 = some 13 := e_gR (by first | decide | omega) rfl (hR.get (by first | decide | omega) (by first | decide | omega) rfl)
theorem ogR_11_2 (hR : RA R) : gR (mg (4562 + zn J) I J R) 11 1 2 = some 14 := e_gR (by first | decide | omega) rfl (hR.get (by first | decide | omega) (by first | decide | omega) rfl)
theorem ogR_11_3 (hR : RA R) : gR (mg (4562 + zn J) I J R) 11 1 3 = some 15 := e_gR (by first | decide | omega) rfl (hR.get (by first | decide | omega) (by first | decide | omega) rfl)
theorem ogR_11_4 (hR : RA R) : gR (mg (4562 + zn J) I J R) 11 1 4 = some 16 := e_gR (by first | decide | omega) rfl (hR.get (by first | decide | omega) (by first | decide | omega) rfl)
theorem ogR_11_6 (hR : RA R) : gR (mg (4562 + zn J) I J R) 11 1 6 = some 17 := e_gR (by first | decide | omega) rfl (hR.get (by first | decide | omega) (by first | decide | omega) rfl)
theorem ogR_11_7 (hR : RA R) : gR (mg (4562 + zn J) I J R) 11 1 7 = some 18 := e_gR (by first | decide | omega) rfl (hR.get (by first | decide | omega) (by first | decide | omega) rfl)
theorem ogR_11_8 (hR : RA R) : gR (mg (4562 + zn J) I J R) 11 1 8 = some 19 := e_gR (by first | decide | omega) rfl (hR.get (by first | decide | omega) (by first | decide | omega) rfl)
theorem ogR_11_9 (hR : RA R) : gR (mg (4562 + zn J) I J R) 11 1 9 = some 46 := e_gR (by first | decide | omega) rfl (hR.get (by first | decide | omega) (by first | decide | omega) rfl)
theorem ogR_11_10 (hR : RA R) : gR (mg (4562 + zn J) I J R) 11 1 10 = some 47 := e_gR (by first | decide | omega) rfl (hR.get (by first | decide | omega) (by first | decide | omega) rfl)
theorem ogR_11_11 (hR : RA R) : gR (mg (4562 + zn J) I J R) 11 1 11 = some 48 := e_gR (by first | decide | omega) rfl (hR.get (by first | decide | omega) (by first | decide | omega) rfl)
theorem ogR_11_12 (hR : RA R) : gR (mg (4562 + zn J) I J R) 11 1 12 = some 69 := e_gR (by first | decide | omega) rfl (hR.get (by first | decide | omega) (by first | decide | omega) rfl)
theorem ok_540 : xk (mg (4562 + zn J) I J R) 540 6 = true := me_xk (by first | decide | omega) rfl
theorem ogI_540 {k : Nat} : gI (mg (4562 + zn J) I J R) 540 6 k = some (I 540 k) := e_gI (by first | decide | omega) rfl
theorem osI_540 {k : Nat} {v : Int32} : sI (mg (4562 + zn J) I J R) 540 6 k v = some (mg (4562 + zn J) (va_up I 540 (va_up (I 540) k v)) J R) := e_sI (by first | decide | omega) rfl
theorem osZ_540 {k : Nat} {v : Int32} : sZ (mg (4562 + zn J) I J R) 540 6 k v = if (v == 0 || v == 1) = true then some (mg (4562 + zn J) (va_up I 540 (va_up (I 540) k v)) J R) else none := e_sZ1 (by first | decide | omega) rfl
theorem ogR_540_0 (hR : RA R) : gR (mg (4562 + zn J) I J R) 540 6 0 = some 11 := e_gR (by first | decide | omega) rfl (hR.get (by first | decide | omega) (by first | decide | omega) rfl)
theorem ogR_540_1 (hR : RA R) : gR (mg (4562 + zn J) I J R) 540 6 1 = some 541 := e_gR (by first | decide | omega) rfl (hR.get (by first | decide | omega) (by first | decide | omega) rfl)
theorem ogR_540_2 (hR : RA R) : gR (mg (4562 + zn J) I J R) 540 6 2 = some 542 := e_gR (by first | decide | omega) rfl (hR.get (by first | decide | omega) (by first | decide | omega) rfl)
theorem ogR_540_3 (hR : RA R) : gR (mg (4562 + zn J) I J R) 540 6 3 = some 543 := e_gR (by first | decide | omega) rfl (hR.get (by first | decide | omega) (by first | decide | omega) rfl)
theorem ogR_540_4 (hR : RA R) : gR (mg (4562 + zn J) I J R) 540 6 4 = some 544 := e_gR (by first | decide | omega) rfl (hR.get (by first | decide | omega) (by first | decide | omega) rfl)
theorem ogR_540_9 (hR : RA R) : gR (mg (4562 + zn J) I J R) 540 6 9 = some 545 := e_gR (by first | decide | omega) rfl (hR.get (by first | decide | omega) (by first | decide | omega) rfl)
theorem ogR_540_10 (hR : RA R) : gR (mg (4562 + zn J) I J R) 540 6 10 = some 546 := e_gR (by first | decide | omega) rfl (hR.get (by first | decide | omega) (by first | decide | omega) rfl)
theorem ogR_540_11 (hR : RA R) : gR (mg (4562 + zn J) I J R) 540 6 11 = some 547 := e_gR (by first | decide | omega) rfl (hR.get (by first | decide | omega) (by first | decide | omega) rfl)
theorem ogR_540_12 (hR : RA R) : gR (mg (4562 + zn J) I J R) 540 6 12 = some 548 := e_gR (by first | decide | omega) rfl (hR.get (by first | decide | omega) (by first | decide | omega) rfl)
theorem ogR_540_13 (hR : RA R) : gR (mg (4562 + zn J) I J R) 540 6 13 = some 549 := e_gR (by first | decide | omega) rfl (hR.get (by first | decide | omega) (by first | decide | omega) rfl)
theorem ogR_540_15 (hR : RA R) : gR (mg (4562 + zn J) I J R) 540 6 15 = some 550 := e_gR (by first | decide | omega) rfl (hR.get (by first | decide | omega) (by first | decide | omega) rfl)
theorem ogR_540_17 (hR : RA R) : gR (mg (4562 + zn J) I J R) 540 6 17 = some 551 := e_gR (by first | decide | omega) rfl (hR.get (by first | decide | omega) (by first | decide | omega) rfl)
theorem ok_559 : xk (mg (4562 + zn J) I J R) 559 5 = true := me_xk (by first | decide | omega) rfl
theorem ogI_559 {k : Nat} : gI (mg (4562 + zn J) I J R) 559 5 k = some (I 559 k) := e_gI (by first | decide | omega) rfl
theorem osI_559 {k : Nat} {v : Int32} : sI (mg (4562 + zn J) I J R) 559 5 k v = some (mg (4562 + zn J) (va_up I 559 (va_up (I 559) k v)) J R) := e_sI (by first | decide | omega) rfl
theorem ogR_559_0 (hR : RA R) : gR (mg (4562 + zn J) I J R) 559 5 0 = some 540 := e_gR (by first | decide | omega) rfl (hR.get (by first | decide | omega) (by first | decide | omega) rfl)
theorem ogR_559_1 (hR : RA R) : gR (mg (4562 + zn J) I J R) 559 5 1 = some 560 := e_gR (by first | decide | omega) rfl (hR.get (by first | decide | omega) (by first | decide | omega) rfl)
theorem ogR_559_2 (hR : RA R) : gR (mg (4562 + zn J) I J R) 559 5 2 = some 562 := e_gR (by first | decide | omega) rfl (hR.get (by first | decide | omega) (by first | decide | omega) rfl)
theorem ok_563 : xk (mg (4562 + zn J) I J R) 563 5 = true := me_xk (by first | decide | omega) rfl
theorem ogI_563 {k : Nat} : gI (mg (4562 + zn J) I J R) 563 5 k = some (I 563 k) := e_gI (by first | decide | omega) rfl
theorem osI_563 {k : Nat} {v : Int32} : sI (mg (4562 + zn J) I J R) 563 5 k v = some (mg (4562 + zn J) (va_up I 563 (va_up (I 563) k v)) J R) := e_sI (by first | decide | omega) rfl
theorem ogR_563_0 (hR : RA R) : gR (mg (4562 + zn J) I J R) 563 5 0 = some 540 := e_gR (by first | decide | omega) rfl (hR.get (by first | decide | omega) (by first | decide | omega) rfl)
theorem ogR_563_2 (hR : RA R) : gR (mg (4562 + zn J) I J R) 563 5 2 = some 566 := e_gR (by first | decide | omega) rfl (hR.get (by first | decide | omega) (by first | decide | omega) rfl)
theorem ok_567 : xk (mg (4562 + zn J) I J R) 567 4 = true := me_xk (by first | decide | omega) rfl
theorem ogI_567 {k : Nat} : gI (mg (4562 + zn J) I J R) 567 4 k = some (I 567 k) := e_gI (by first | decide | omega) rfl
theorem osI_567 {k : Nat} {v : Int32} : sI (mg (4562 + zn J) I J R) 567 4 k v = some (mg (4562 + zn J) (va_up I 567 (va_up (I 567) k v)) J R) := e_sI (by first | decide | omega) rfl
theorem ogR_567_0 (hR : RA R) : gR (mg (4562 + zn J) I J R) 567 4 0 = some 11 := e_gR (by first | decide | omega) rfl (hR.get (by first | decide | omega) (by first | decide | omega) rfl)
theorem ogR_567_1 (hR : RA R) : gR (mg (4562 + zn J) I J R) 567 4 1 = some 1 := e_gR (by first | decide | omega) rfl (hR.get (by first | decide | omega) (by first | decide | omega) rfl)
theorem ogR_567_2 (hR : RA R) : gR (mg (4562 + zn J) I J R) 567 4 2 = some 568 := e_gR (by first | decide | omega) rfl (hR.get (by first | decide | omega) (by first | decide | omega) rfl)
theorem ogR_567_5 (hR : RA R) : gR (mg (4562 + zn J) I J R) 567 4 5 = some 569 := e_gR (by first | decide | omega) rfl (hR.get (by first | decide | omega) (by first | decide | omega) rfl)
theorem ogR_567_6 (hR : RA R) : gR (mg (4562 + zn J) I J R) 567 4 6 = some 574 := e_gR (by first | decide | omega) rfl (hR.get (by first | decide | omega) (by first | decide | omega) rfl)
theorem ogR_567_7 (hR : RA R) : gR (mg (4562 + zn J) I J R) 567 4 7 = some 575 := e_gR (by first | decide | omega) rfl (hR.get (by first | decide | omega) (by first | decide | omega) rfl)
theorem ogR_567_8 (hR : RA R) : gR (mg (4562 + zn J) I J R) 567 4 8 = some 576 := e_gR (by first | decide | omega) rfl (hR.get (by first | decide | omega) (by first | decide | omega) rfl)
theorem ogR_567_9 (hR : RA R) : gR (mg (4562 + zn J) I J R) 567 4 9 = some 577 := e_gR (by first | decide | omega) rfl (hR.get (by first | decide | omega) (by first | decide | omega) rfl)
theorem ogR_567_10 (hR : RA R) : gR (mg (4562 + zn J) I J R) 567 4 10 = some 578 := e_gR (by first | decide | omega) rfl (hR.get (by first | decide | omega) (by first | decide | omega) rfl)
theorem ogR_567_11 (hR : RA R) : gR (mg (4562 + zn J) I J R) 567 4 11 = some 579 := e_gR (by first | decide | omega) rfl (hR.get (by first | decide | omega) (by first | decide | omega) rfl)
theorem ogR_567_14 (hR : RA R) : gR (mg (4562 + zn J) I J R) 567 4 14 = some 580 := e_gR (by first | decide | omega) rfl (hR.get (by first | decide | omega) (by first | decide | omega) rfl)
theorem ogR_567_15 (hR : RA R) : gR (mg (4562 + zn J) I J R) 567 4 15 = some 581 := e_gR (by first | decide | omega) rfl (hR.get (by first | decide | omega) (by first | decide | omega) rfl)
theorem ogR_567_16 (hR : RA R) : gR (mg (4562 + zn J) I J R) 567 4 16 = some 582 := e_gR (by first | decide | omega) rfl (hR.get (by first | decide | omega) (by first | decide | omega) rfl)
theorem ogR_567_17 (hR : RA R) : gR (mg (4562 + zn J) I J R) 567 4 17 = some 583 := e_gR (by first | decide | omega) rfl (hR.get (by first | decide | omega) (by first | decide | omega) rfl)
theorem ok_1784 : xk (mg (4562 + zn J) I J R) 1784 8 = true := me_xk (by first | decide | omega) rfl
theorem ogI_1784 {k : Nat} : gI (mg (4562 + zn J) I J R) 1784 8 k = some (I 1784 k) := e_gI (by first | decide | omega) rfl
theorem osI_1784 {k : Nat} {v : Int32} : sI (mg (4562 + zn J) I J R) 1784 8 k v = some (mg (4562 + zn J) (va_up I 1784 (va_up (I 1784) k v)) J R) := e_sI (by first | decide | omega) rfl
theorem ogR_1784_0 (hR : RA R) : gR (mg (4562 + zn J) I J R) 1784 8 0 = some 567 := e_gR (by first | decide | omega) rfl (hR.get (by first | decide | omega) (by first | decide | omega) rfl)
theorem ogR_1784_1 (hR : RA R) : gR (mg (4562 + zn J) I J R) 1784 8 1 = some 1 := e_gR (by first | decide | omega) rfl (hR.get (by first | decide | omega) (by first | decide | omega) rfl)
theorem ogR_1784_2 (hR : RA R) : gR (mg (4562 + zn J) I J R) 1784 8 2 = some 1785 := e_gR (by first | decide | omega) rfl (hR.get (by first | decide | omega) (by first | decide | omega) rfl)
theorem ogR_1784_4 (hR : RA R) : gR (mg (4562 + zn J) I J R) 1784 8 4 = some 1786 := e_gR (by first | decide | omega) rfl (hR.get (by first | decide | omega) (by first | decide | omega) rfl)
theorem ogR_1784_5 (hR : RA R) : gR (mg (4562 + zn J) I J R) 1784 8 5 = some 1791 := e_gR (by first | decide | omega) rfl (hR.get (by first | decide | omega) (by first | decide | omega) rfl)
theorem ogR_1784_6 (hR : RA R) : gR (mg (4562 + zn J) I J R) 1784 8 6 = some 1796 := e_gR (by first | decide | omega) rfl (hR.get (by first | decide | omega) (by first | decide | omega) rfl)
theorem ogR_1784_7 (hR : RA R) : gR (mg (4562 + zn J) I J R) 1784 8 7 = some 1801 := e_gR (by first | decide | omega) rfl (hR.get (by first | decide | omega) (by first | decide | omega) rfl)
theorem ok_2206 : xk (mg (4562 + zn J) I J R) 2206 7 = true := me_xk (by first | decide | omega) rfl
theorem ogI_2206 {k : Nat} : gI (mg (4562 + zn J) I J R) 2206 7 k = some (I 2206 k) := e_gI (by first | decide | omega) rfl
theorem osI_2206 {k : Nat} {v : Int32} : sI (mg (4562 + zn J) I J R) 2206 7 k v = some (mg (4562 + zn J) (va_up I 2206 (va_up (I 2206) k v)) J R) := e_sI (by first | decide | omega) rfl
theorem ogR_2206_0 (hR : RA R) : gR (mg (4562 + zn J) I J R) 2206 7 0 = some 11 := e_gR (by first | decide | omega) rfl (hR.get (by first | decide | omega) (by first | decide | omega) rfl)
theorem ogR_2206_2 (hR : RA R) : gR (mg (4562 + zn J) I J R) 2206 7 2 = some 2207 := e_gR (by first | decide | omega) rfl (hR.get (by first | decide | omega) (by first | decide | omega) rfl)
theorem ok_560 : xk (mg (4562 + zn J) I J R) 560 10 = true := me_xk (by first | decide | omega) rfl
theorem ogL_12 : gL (mg (4562 + zn J) I J R) 12 14 = some (128 : Int32) := e_gL (by first | decide | omega) rfl
theorem oaI_12 {i : Int32} : aI (mg (4562 + zn J) I J R) 12 14 i = if xvi i 128 = true then some (I 12 i.toNatClampNeg) else none := e_aI1 (by first | decide | omega) rfl
theorem ogL_13 : gL (mg (4562 + zn J) I J R) 13 14 = some (48 : Int32) := e_gL (by first | decide | omega) rfl
theorem oaI_13 {i : Int32} : aI (mg (4562 + zn J) I J R) 13 14 i = if xvi i 48 = true then some (I 13 i.toNatClampNeg) else none := e_aI1 (by first | decide | omega) rfl
theorem oaI_14 {i : Int32} : aI (mg (4562 + zn J) I J R) 14 14 i = if xvi i 48 = true then some (I 14 i.toNatClampNeg) else none := e_aI1 (by first | decide | omega) rfl
theorem oaI_15 {i : Int32} : aI (mg (4562 + zn J) I J R) 15 14 i = if xvi i 48 = true then some (I 15 i.toNatClampNeg) else none := e_aI1 (by first | decide | omega) rfl
theorem ogL_16 : gL (mg (4562 + zn J) I J R) 16 17 = some (30 : Int32) := e_gL (by first | decide | omega) rfl
theorem oaR_16 {i : Int32} : aR (mg (4562 + zn J) I J R) 16 17 i = if xvi i 30 = true then some (R 16 i.toNatClampNeg) else none := e_aR1 (by first | decide | omega) rfl
theorem oaR_17 {i : Int32} : aR (mg (4562 + zn J) I J R) 17 16 i = if xvi i 26 = true then some (R 17 i.toNatClampNeg) else none := e_aR1 (by first | decide | omega) rfl
theorem ogL_18 : gL (mg (4562 + zn J) I J R) 18 15 = some (26 : Int32) := e_gL (by first | decide | omega) rfl
theorem owZ_18 {i v : Int32} : wZ (mg (4562 + zn J) I J R) 18 i v = if (xvi i 26 && (v == 0 || v == 1)) = true then some (mg (4562 + zn J) (va_up I 18 (va_up (I 18) i.toNatClampNeg v)) J R) else none := e_wZ1 (by first | decide | omega) rfl
theorem oaR_19 {i : Int32} : aR (mg (4562 + zn J) I J R) 19 18 i = if xvi i 26 = true then some (R 19 i.toNatClampNeg) else none := e_aR1 (by first | decide | omega) rfl
theorem oaR_48 {i : Int32} : aR (mg (4562 + zn J) I J R) 48 18 i = if xvi i 20 = true then some (R 48 i.toNatClampNeg) else none := e_aR1 (by first | decide | omega) rfl
theorem oaR_69 {i : Int32} : aR (mg (4562 + zn J) I J R) 69 16 i = if xvi i 20 = true then some (R 69 i.toNatClampNeg) else none := e_aR1 (by first | decide | omega) rfl
theorem owZ_544 {i v : Int32} : wZ (mg (4562 + zn J) I J R) 544 i v = if (xvi i 300 && (v == 0 || v == 1)) = true then some (mg (4562 + zn J) (va_up I 544 (va_up (I 544) i.toNatClampNeg v)) J R) else none := e_wZ1 (by first | decide | omega) rfl
theorem owC_562 {i v : Int32} : wC (mg (4562 + zn J) I J R) 562 i v = if xvi i 1000 = true then some (mg (4562 + zn J) (va_up I 562 (va_up (I 562) i.toNatClampNeg (vp_nar .char v))) J R) else none := e_wC1 (by first | decide | omega) rfl
theorem owC_566 {i v : Int32} : wC (mg (4562 + zn J) I J R) 566 i v = if xvi i 1000 = true then some (mg (4562 + zn J) (va_up I 566 (va_up (I 566) i.toNatClampNeg (vp_nar .char v))) J R) else none := e_wC1 (by first | decide | omega) rfl
theorem oaR_568 {i : Int32} : aR (mg (4562 + zn J) I J R) 568 16 i = if xvi i 240 = true then some (R 568 i.toNatClampNeg) else none := e_aR1 (by first | decide | omega) rfl
theorem oaR_575 {i : Int32} : aR (mg (4562 + zn J) I J R) 575 17 i = if xvi i 480 = true then some (R 575 i.toNatClampNeg) else none := e_aR1 (by first | decide | omega) rfl
theorem oaR_1785 {i : Int32} : aR (mg (4562 + zn J) I J R) 1785 16 i = if xvi i 80 = true then some (R 1785 i.toNatClampNeg) else none := e_aR1 (by first | decide | omega) rfl
theorem ogL_4559 : gL (mg (4562 + zn J) I J R) 4559 14 = some (80 : Int32) := e_gL (by first | decide | omega) rfl
end EO
