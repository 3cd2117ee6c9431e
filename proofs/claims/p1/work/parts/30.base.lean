/-! the objects that are alone of their kind: what each access gives -/
section EO
variable {I : Nat → Nat → Int32} {J : Nat → Nat → Int64} {R : Nat → Nat → Option Nat}
theorem e_sZ1 {n a c k : Nat} {v : Int32} (ha : a < n) (hk : (KK a).1 = c) : sZ (mg n I J R) a c k v = if (v == 0 || v == 1) = true then some (mg n (va_up I a (va_up (I a) k v)) J R) else none := by
  unfold sZ
  rw [me_xk ha hk, Bool.true_and]
  rfl
theorem e_k2 {n a kd len : Nat} (ha : a < n) (hk : KK a = (kd, len)) : xk (mg n I J R) a kd = true ∧ ((mg n I J R).2.1 a).2 = len := by
  refine ⟨me_xk ha (by rw [hk]), ?_⟩
  show (ct n a).2 = len
  rw [ct_lt ha, hk]
theorem e_aI1 {n a kd len : Nat} {i : Int32} (ha : a < n) (hk : KK a = (kd, len)) : aI (mg n I J R) a kd i = if xvi i len = true then some (I a i.toNatClampNeg) else none := by
  unfold aI
  rw [(e_k2 ha hk).1, (e_k2 ha hk).2, Bool.true_and]
theorem e_aR1 {n a kd len : Nat} {i : Int32} (ha : a < n) (hk : KK a = (kd, len)) : aR (mg n I J R) a kd i = if xvi i len = true then some (R a i.toNatClampNeg) else none := by
  unfold aR
  rw [(e_k2 ha hk).1, (e_k2 ha hk).2, Bool.true_and]
theorem e_wI1 {n a len : Nat} {i v : Int32} (ha : a < n) (hk : KK a = (14, len)) : wI (mg n I J R) a i v = if xvi i len = true then some (mg n (va_up I a (va_up (I a) i.toNatClampNeg v)) J R) else none := by
  unfold wI
  rw [(e_k2 ha hk).1, (e_k2 ha hk).2, Bool.true_and]
  rfl
theorem e_wC1 {n a len : Nat} {i v : Int32} (ha : a < n) (hk : KK a = (13, len)) : wC (mg n I J R) a i v = if xvi i len = true then some (mg n (va_up I a (va_up (I a) i.toNatClampNeg (vp_nar .char v))) J R) else none := by
  unfold wC
  rw [(e_k2 ha hk).1, (e_k2 ha hk).2, Bool.true_and]
  rfl
theorem e_wZ1 {n a len : Nat} {i v : Int32} (ha : a < n) (hk : KK a = (15, len)) : wZ (mg n I J R) a i v = if (xvi i len && (v == 0 || v == 1)) = true then some (mg n (va_up I a (va_up (I a) i.toNatClampNeg v)) J R) else none := by
  unfold wZ
  rw [(e_k2 ha hk).1, (e_k2 ha hk).2, Bool.true_and]
  rfl
theorem e_aJ1 {n a len : Nat} {i : Int32} (ha : a < n) (hk : KK a = (19, len)) : aJ (mg n I J R) a i = if xvi i len = true then some (J a i.toNatClampNeg) else none := by
  unfold aJ
  rw [(e_k2 ha hk).1, (e_k2 ha hk).2, Bool.true_and]
theorem e_wJ1 {n a len : Nat} {i : Int32} {v : Int64} (ha : a < n) (hk : KK a = (19, len)) : wJ (mg n I J R) a i v = if xvi i len = true then some (mg n I (va_up J a (va_up (J a) i.toNatClampNeg v)) R) else none := by
  unfold wJ
  rw [(e_k2 ha hk).1, (e_k2 ha hk).2, Bool.true_and]
  rfl
theorem ok_0 : xk (mg 4625 I J R) 0 11 = true := me_xk (by decide) rfl
theorem ogI_0 {k : Nat} : gI (mg 4625 I J R) 0 11 k = some (I 0 k) := e_gI (by decide) rfl
theorem osI_0 {k : Nat} {v : Int32} : sI (mg 4625 I J R) 0 11 k v = some (mg 4625 (va_up I 0 (va_up (I 0) k v)) J R) := e_sI (by decide) rfl
theorem osZ_0 {k : Nat} {v : Int32} : sZ (mg 4625 I J R) 0 11 k v = if (v == 0 || v == 1) = true then some (mg 4625 (va_up I 0 (va_up (I 0) k v)) J R) else none := e_sZ1 (by decide) rfl
theorem ogR_0_0 (hR : RA R) : gR (mg 4625 I J R) 0 11 0 = some 10 := e_gR (by decide) rfl (hR.get (by decide) (by decide) rfl)
theorem ogR_0_2 (hR : RA R) : gR (mg 4625 I J R) 0 11 2 = some 11 := e_gR (by decide) rfl (hR.get (by decide) (by decide) rfl)
theorem ogR_0_3 (hR : RA R) : gR (mg 4625 I J R) 0 11 3 = some 540 := e_gR (by decide) rfl (hR.get (by decide) (by decide) rfl)
theorem ogR_0_4 (hR : RA R) : gR (mg 4625 I J R) 0 11 4 = some 559 := e_gR (by decide) rfl (hR.get (by decide) (by decide) rfl)
theorem ogR_0_5 (hR : RA R) : gR (mg 4625 I J R) 0 11 5 = some 563 := e_gR (by decide) rfl (hR.get (by decide) (by decide) rfl)
theorem ogR_0_6 (hR : RA R) : gR (mg 4625 I J R) 0 11 6 = some 567 := e_gR (by decide) rfl (hR.get (by decide) (by decide) rfl)
theorem ogR_0_7 (hR : RA R) : gR (mg 4625 I J R) 0 11 7 = some 1784 := e_gR (by decide) rfl (hR.get (by decide) (by decide) rfl)
theorem ogR_0_8 (hR : RA R) : gR (mg 4625 I J R) 0 11 8 = some 2206 := e_gR (by decide) rfl (hR.get (by decide) (by decide) rfl)
theorem ogR_0_9 (hR : RA R) : gR (mg 4625 I J R) 0 11 9 = some 2215 := e_gR (by decide) rfl (hR.get (by decide) (by decide) rfl)
theorem ogR_0_10 (hR : RA R) : gR (mg 4625 I J R) 0 11 10 = some 4541 := e_gR (by decide) rfl (hR.get (by decide) (by decide) rfl)
theorem ogR_0_11 (hR : RA R) : gR (mg 4625 I J R) 0 11 11 = some 4546 := e_gR (by decide) rfl (hR.get (by decide) (by decide) rfl)
theorem ogR_0_12 (hR : RA R) : gR (mg 4625 I J R) 0 11 12 = some 4551 := e_gR (by decide) rfl (hR.get (by decide) (by decide) rfl)
theorem ogR_0_13 (hR : RA R) : gR (mg 4625 I J R) 0 11 13 = some 4559 := e_gR (by decide) rfl (hR.get (by decide) (by decide) rfl)
theorem ogR_0_14 (hR : RA R) : gR (mg 4625 I J R) 0 11 14 = some 4560 := e_gR (by decide) rfl (hR.get (by decide) (by decide) rfl)
theorem ok_1 : xk (mg 4625 I J R) 1 0 = true := me_xk (by decide) rfl
theorem ogI_1 {k : Nat} : gI (mg 4625 I J R) 1 0 k = some (I 1 k) := e_gI (by decide) rfl
theorem osI_1 {k : Nat} {v : Int32} : sI (mg 4625 I J R) 1 0 k v = some (mg 4625 (va_up I 1 (va_up (I 1) k v)) J R) := e_sI (by decide) rfl
theorem osZ_1 {k : Nat} {v : Int32} : sZ (mg 4625 I J R) 1 0 k v = if (v == 0 || v == 1) = true then some (mg 4625 (va_up I 1 (va_up (I 1) k v)) J R) else none := e_sZ1 (by decide) rfl
theorem ogR_1_0 (hR : RA R) : gR (mg 4625 I J R) 1 0 0 = some 2 := e_gR (by decide) rfl (hR.get (by decide) (by decide) rfl)
theorem ogR_1_1 (hR : RA R) : gR (mg 4625 I J R) 1 0 1 = some 4 := e_gR (by decide) rfl (hR.get (by decide) (by decide) rfl)
theorem ogR_1_2 (hR : RA R) : gR (mg 4625 I J R) 1 0 2 = some 6 := e_gR (by decide) rfl (hR.get (by decide) (by decide) rfl)
theorem ogR_1_3 (hR : RA R) : gR (mg 4625 I J R) 1 0 3 = some 8 := e_gR (by decide) rfl (hR.get (by decide) (by decide) rfl)
theorem ok_11 : xk (mg 4625 I J R) 11 1 = true := me_xk (by decide) rfl
theorem ogI_11 {k : Nat} : gI (mg 4625 I J R) 11 1 k = some (I 11 k) := e_gI (by decide) rfl
theorem osI_11 {k : Nat} {v : Int32} : sI (mg 4625 I J R) 11 1 k v = some (mg 4625 (va_up I 11 (va_up (I 11) k v)) J R) := e_sI (by decide) rfl
theorem osZ_11 {k : Nat} {v : Int32} : sZ (mg 4625 I J R) 11 1 k v = if (v == 0 || v == 1) = true then some (mg 4625 (va_up I 11 (va_up (I 11) k v)) J R) else none := e_sZ1 (by decide) rfl
theorem ogR_11_0 (hR : RA R) : gR (mg 4625 I J R) 11 1 0 = some 12 := e_gR (by decide) rfl (hR.get (by decide) (by decide) rfl)
theorem ogR_11_1 (hR : RA R) : gR (mg 4625 I J R) 11 1 1 = some 13 := e_gR (by decide) rfl (hR.get (by decide) (by decide) rfl)
theorem ogR_11_2 (hR : RA R) : gR (mg 4625 I J R) 11 1 2 = some 14 := e_gR (by decide) rfl (hR.get (by decide) (by decide) rfl)
theorem ogR_11_3 (hR : RA R) : gR (mg 4625 I J R) 11 1 3 = some 15 := e_gR (by decide) rfl (hR.get (by decide) (by decide) rfl)
theorem ogR_11_4 (hR : RA R) : gR (mg 4625 I J R) 11 1 4 = some 16 := e_gR (by decide) rfl (hR.get (by decide) (by decide) rfl)
theorem ogR_11_6 (hR : RA R) : gR (mg 4625 I J R) 11 1 6 = some 17 := e_gR (by decide) rfl (hR.get (by decide) (by decide) rfl)
theorem ogR_11_7 (hR : RA R) : gR (mg 4625 I J R) 11 1 7 = some 18 := e_gR (by decide) rfl (hR.get (by decide) (by decide) rfl)
theorem ogR_11_8 (hR : RA R) : gR (mg 4625 I J R) 11 1 8 = some 19 := e_gR (by decide) rfl (hR.get (by decide) (by decide) rfl)
theorem ogR_11_9 (hR : RA R) : gR (mg 4625 I J R) 11 1 9 = some 46 := e_gR (by decide) rfl (hR.get (by decide) (by decide) rfl)
theorem ogR_11_10 (hR : RA R) : gR (mg 4625 I J R) 11 1 10 = some 47 := e_gR (by decide) rfl (hR.get (by decide) (by decide) rfl)
theorem ogR_11_11 (hR : RA R) : gR (mg 4625 I J R) 11 1 11 = some 48 := e_gR (by decide) rfl (hR.get (by decide) (by decide) rfl)
theorem ogR_11_12 (hR : RA R) : gR (mg 4625 I J R) 11 1 12 = some 69 := e_gR (by decide) rfl (hR.get (by decide) (by decide) rfl)
theorem ok_540 : xk (mg 4625 I J R) 540 6 = true := me_xk (by decide) rfl
theorem ogI_540 {k : Nat} : gI (mg 4625 I J R) 540 6 k = some (I 540 k) := e_gI (by decide) rfl
theorem osI_540 {k : Nat} {v : Int32} : sI (mg 4625 I J R) 540 6 k v = some (mg 4625 (va_up I 540 (va_up (I 540) k v)) J R) := e_sI (by decide) rfl
theorem osZ_540 {k : Nat} {v : Int32} : sZ (mg 4625 I J R) 540 6 k v = if (v == 0 || v == 1) = true then some (mg 4625 (va_up I 540 (va_up (I 540) k v)) J R) else none := e_sZ1 (by decide) rfl
theorem ogR_540_0 (hR : RA R) : gR (mg 4625 I J R) 540 6 0 = some 11 := e_gR (by decide) rfl (hR.get (by decide) (by decide) rfl)
theorem ogR_540_1 (hR : RA R) : gR (mg 4625 I J R) 540 6 1 = some 541 := e_gR (by decide) rfl (hR.get (by decide) (by decide) rfl)
theorem ogR_540_2 (hR : RA R) : gR (mg 4625 I J R) 540 6 2 = some 542 := e_gR (by decide) rfl (hR.get (by decide) (by decide) rfl)
theorem ogR_540_3 (hR : RA R) : gR (mg 4625 I J R) 540 6 3 = some 543 := e_gR (by decide) rfl (hR.get (by decide) (by decide) rfl)
theorem ogR_540_4 (hR : RA R) : gR (mg 4625 I J R) 540 6 4 = some 544 := e_gR (by decide) rfl (hR.get (by decide) (by decide) rfl)
theorem ogR_540_9 (hR : RA R) : gR (mg 4625 I J R) 540 6 9 = some 545 := e_gR (by decide) rfl (hR.get (by decide) (by decide) rfl)
theorem ogR_540_10 (hR : RA R) : gR (mg 4625 I J R) 540 6 10 = some 546 := e_gR (by decide) rfl (hR.get (by decide) (by decide) rfl)
theorem ogR_540_11 (hR : RA R) : gR (mg 4625 I J R) 540 6 11 = some 547 := e_gR (by decide) rfl (hR.get (by decide) (by decide) rfl)
theorem ogR_540_12 (hR : RA R) : gR (mg 4625 I J R) 540 6 12 = some 548 := e_gR (by decide) rfl (hR.get (by decide) (by decide) rfl)
theorem ogR_540_13 (hR : RA R) : gR (mg 4625 I J R) 540 6 13 = some 549 := e_gR (by decide) rfl (hR.get (by decide) (by decide) rfl)
theorem ogR_540_15 (hR : RA R) : gR (mg 4625 I J R) 540 6 15 = some 550 := e_gR (by decide) rfl (hR.get (by decide) (by decide) rfl)
theorem ogR_540_17 (hR : RA R) : gR (mg 4625 I J R) 540 6 17 = some 551 := e_gR (by decide) rfl (hR.get (by decide) (by decide) rfl)
theorem ok_559 : xk (mg 4625 I J R) 559 5 = true := me_xk (by decide) rfl
theorem ogI_559 {k : Nat} : gI (mg 4625 I J R) 559 5 k = some (I 559 k) := e_gI (by decide) rfl
theorem osI_559 {k : Nat} {v : Int32} : sI (mg 4625 I J R) 559 5 k v = some (mg 4625 (va_up I 559 (va_up (I 559) k v)) J R) := e_sI (by decide) rfl
theorem osZ_559 {k : Nat} {v : Int32} : sZ (mg 4625 I J R) 559 5 k v = if (v == 0 || v == 1) = true then some (mg 4625 (va_up I 559 (va_up (I 559) k v)) J R) else none := e_sZ1 (by decide) rfl
theorem ogR_559_0 (hR : RA R) : gR (mg 4625 I J R) 559 5 0 = some 540 := e_gR (by decide) rfl (hR.get (by decide) (by decide) rfl)
theorem ogR_559_1 (hR : RA R) : gR (mg 4625 I J R) 559 5 1 = some 560 := e_gR (by decide) rfl (hR.get (by decide) (by decide) rfl)
theorem ogR_559_2 (hR : RA R) : gR (mg 4625 I J R) 559 5 2 = some 562 := e_gR (by decide) rfl (hR.get (by decide) (by decide) rfl)
theorem ok_563 : xk (mg 4625 I J R) 563 5 = true := me_xk (by decide) rfl
theorem ogI_563 {k : Nat} : gI (mg 4625 I J R) 563 5 k = some (I 563 k) := e_gI (by decide) rfl
theorem osI_563 {k : Nat} {v : Int32} : sI (mg 4625 I J R) 563 5 k v = some (mg 4625 (va_up I 563 (va_up (I 563) k v)) J R) := e_sI (by decide) rfl
theorem osZ_563 {k : Nat} {v : Int32} : sZ (mg 4625 I J R) 563 5 k v = if (v == 0 || v == 1) = true then some (mg 4625 (va_up I 563 (va_up (I 563) k v)) J R) else none := e_sZ1 (by decide) rfl
theorem ogR_563_0 (hR : RA R) : gR (mg 4625 I J R) 563 5 0 = some 540 := e_gR (by decide) rfl (hR.get (by decide) (by decide) rfl)
theorem ogR_563_1 (hR : RA R) : gR (mg 4625 I J R) 563 5 1 = some 564 := e_gR (by decide) rfl (hR.get (by decide) (by decide) rfl)
theorem ogR_563_2 (hR : RA R) : gR (mg 4625 I J R) 563 5 2 = some 566 := e_gR (by decide) rfl (hR.get (by decide) (by decide) rfl)
theorem ok_567 : xk (mg 4625 I J R) 567 4 = true := me_xk (by decide) rfl
theorem ogI_567 {k : Nat} : gI (mg 4625 I J R) 567 4 k = some (I 567 k) := e_gI (by decide) rfl
theorem osI_567 {k : Nat} {v : Int32} : sI (mg 4625 I J R) 567 4 k v = some (mg 4625 (va_up I 567 (va_up (I 567) k v)) J R) := e_sI (by decide) rfl
theorem osZ_567 {k : Nat} {v : Int32} : sZ (mg 4625 I J R) 567 4 k v = if (v == 0 || v == 1) = true then some (mg 4625 (va_up I 567 (va_up (I 567) k v)) J R) else none := e_sZ1 (by decide) rfl
theorem ogR_567_0 (hR : RA R) : gR (mg 4625 I J R) 567 4 0 = some 11 := e_gR (by decide) rfl (hR.get (by decide) (by decide) rfl)
theorem ogR_567_1 (hR : RA R) : gR (mg 4625 I J R) 567 4 1 = some 1 := e_gR (by decide) rfl (hR.get (by decide) (by decide) rfl)
theorem ogR_567_2 (hR : RA R) : gR (mg 4625 I J R) 567 4 2 = some 568 := e_gR (by decide) rfl (hR.get (by decide) (by decide) rfl)
theorem ogR_567_5 (hR : RA R) : gR (mg 4625 I J R) 567 4 5 = some 569 := e_gR (by decide) rfl (hR.get (by decide) (by decide) rfl)
theorem ogR_567_6 (hR : RA R) : gR (mg 4625 I J R) 567 4 6 = some 574 := e_gR (by decide) rfl (hR.get (by decide) (by decide) rfl)
theorem ogR_567_7 (hR : RA R) : gR (mg 4625 I J R) 567 4 7 = some 575 := e_gR (by decide) rfl (hR.get (by decide) (by decide) rfl)
theorem ogR_567_8 (hR : RA R) : gR (mg 4625 I J R) 567 4 8 = some 576 := e_gR (by decide) rfl (hR.get (by decide) (by decide) rfl)
theorem ogR_567_9 (hR : RA R) : gR (mg 4625 I J R) 567 4 9 = some 577 := e_gR (by decide) rfl (hR.get (by decide) (by decide) rfl)
theorem ogR_567_10 (hR : RA R) : gR (mg 4625 I J R) 567 4 10 = some 578 := e_gR (by decide) rfl (hR.get (by decide) (by decide) rfl)
theorem ogR_567_11 (hR : RA R) : gR (mg 4625 I J R) 567 4 11 = some 579 := e_gR (by decide) rfl (hR.get (by decide) (by decide) rfl)
theorem ogR_567_14 (hR : RA R) : gR (mg 4625 I J R) 567 4 14 = some 580 := e_gR (by decide) rfl (hR.get (by decide) (by decide) rfl)
theorem ogR_567_15 (hR : RA R) : gR (mg 4625 I J R) 567 4 15 = some 581 := e_gR (by decide) rfl (hR.get (by decide) (by decide) rfl)
theorem ogR_567_16 (hR : RA R) : gR (mg 4625 I J R) 567 4 16 = some 582 := e_gR (by decide) rfl (hR.get (by decide) (by decide) rfl)
theorem ogR_567_17 (hR : RA R) : gR (mg 4625 I J R) 567 4 17 = some 583 := e_gR (by decide) rfl (hR.get (by decide) (by decide) rfl)
theorem ok_1784 : xk (mg 4625 I J R) 1784 8 = true := me_xk (by decide) rfl
theorem ogI_1784 {k : Nat} : gI (mg 4625 I J R) 1784 8 k = some (I 1784 k) := e_gI (by decide) rfl
theorem osI_1784 {k : Nat} {v : Int32} : sI (mg 4625 I J R) 1784 8 k v = some (mg 4625 (va_up I 1784 (va_up (I 1784) k v)) J R) := e_sI (by decide) rfl
theorem osZ_1784 {k : Nat} {v : Int32} : sZ (mg 4625 I J R) 1784 8 k v = if (v == 0 || v == 1) = true then some (mg 4625 (va_up I 1784 (va_up (I 1784) k v)) J R) else none := e_sZ1 (by decide) rfl
theorem ogR_1784_0 (hR : RA R) : gR (mg 4625 I J R) 1784 8 0 = some 567 := e_gR (by decide) rfl (hR.get (by decide) (by decide) rfl)
theorem ogR_1784_1 (hR : RA R) : gR (mg 4625 I J R) 1784 8 1 = some 1 := e_gR (by decide) rfl (hR.get (by decide) (by decide) rfl)
theorem ogR_1784_2 (hR : RA R) : gR (mg 4625 I J R) 1784 8 2 = some 1785 := e_gR (by decide) rfl (hR.get (by decide) (by decide) rfl)
theorem ogR_1784_4 (hR : RA R) : gR (mg 4625 I J R) 1784 8 4 = some 1786 := e_gR (by decide) rfl (hR.get (by decide) (by decide) rfl)
theorem ogR_1784_5 (hR : RA R) : gR (mg 4625 I J R) 1784 8 5 = some 1791 := e_gR (by decide) rfl (hR.get (by decide) (by decide) rfl)
theorem ogR_1784_6 (hR : RA R) : gR (mg 4625 I J R) 1784 8 6 = some 1796 := e_gR (by decide) rfl (hR.get (by decide) (by decide) rfl)
theorem ogR_1784_7 (hR : RA R) : gR (mg 4625 I J R) 1784 8 7 = some 1801 := e_gR (by decide) rfl (hR.get (by decide) (by decide) rfl)
theorem ok_2206 : xk (mg 4625 I J R) 2206 7 = true := me_xk (by decide) rfl
theorem ogI_2206 {k : Nat} : gI (mg 4625 I J R) 2206 7 k = some (I 2206 k) := e_gI (by decide) rfl
theorem osI_2206 {k : Nat} {v : Int32} : sI (mg 4625 I J R) 2206 7 k v = some (mg 4625 (va_up I 2206 (va_up (I 2206) k v)) J R) := e_sI (by decide) rfl
theorem osZ_2206 {k : Nat} {v : Int32} : sZ (mg 4625 I J R) 2206 7 k v = if (v == 0 || v == 1) = true then some (mg 4625 (va_up I 2206 (va_up (I 2206) k v)) J R) else none := e_sZ1 (by decide) rfl
theorem ogR_2206_0 (hR : RA R) : gR (mg 4625 I J R) 2206 7 0 = some 11 := e_gR (by decide) rfl (hR.get (by decide) (by decide) rfl)
theorem ogR_2206_2 (hR : RA R) : gR (mg 4625 I J R) 2206 7 2 = some 2207 := e_gR (by decide) rfl (hR.get (by decide) (by decide) rfl)
theorem ok_2215 : xk (mg 4625 I J R) 2215 3 = true := me_xk (by decide) rfl
theorem ogI_2215 {k : Nat} : gI (mg 4625 I J R) 2215 3 k = some (I 2215 k) := e_gI (by decide) rfl
theorem osI_2215 {k : Nat} {v : Int32} : sI (mg 4625 I J R) 2215 3 k v = some (mg 4625 (va_up I 2215 (va_up (I 2215) k v)) J R) := e_sI (by decide) rfl
theorem osZ_2215 {k : Nat} {v : Int32} : sZ (mg 4625 I J R) 2215 3 k v = if (v == 0 || v == 1) = true then some (mg 4625 (va_up I 2215 (va_up (I 2215) k v)) J R) else none := e_sZ1 (by decide) rfl
theorem ogR_2215_0 (hR : RA R) : gR (mg 4625 I J R) 2215 3 0 = some 11 := e_gR (by decide) rfl (hR.get (by decide) (by decide) rfl)
theorem ogR_2215_1 (hR : RA R) : gR (mg 4625 I J R) 2215 3 1 = some 1 := e_gR (by decide) rfl (hR.get (by decide) (by decide) rfl)
theorem ogR_2215_2 (hR : RA R) : gR (mg 4625 I J R) 2215 3 2 = some 2216 := e_gR (by decide) rfl (hR.get (by decide) (by decide) rfl)
theorem ogR_2215_3 (hR : RA R) : gR (mg 4625 I J R) 2215 3 3 = some 2217 := e_gR (by decide) rfl (hR.get (by decide) (by decide) rfl)
theorem ogR_2215_5 (hR : RA R) : gR (mg 4625 I J R) 2215 3 5 = some 2218 := e_gR (by decide) rfl (hR.get (by decide) (by decide) rfl)
theorem ogR_2215_6 (hR : RA R) : gR (mg 4625 I J R) 2215 3 6 = some 2219 := e_gR (by decide) rfl (hR.get (by decide) (by decide) rfl)
theorem ogR_2215_7 (hR : RA R) : gR (mg 4625 I J R) 2215 3 7 = some 2220 := e_gR (by decide) rfl (hR.get (by decide) (by decide) rfl)
theorem ogR_2215_8 (hR : RA R) : gR (mg 4625 I J R) 2215 3 8 = some 2225 := e_gR (by decide) rfl (hR.get (by decide) (by decide) rfl)
theorem ogR_2215_9 (hR : RA R) : gR (mg 4625 I J R) 2215 3 9 = some 2230 := e_gR (by decide) rfl (hR.get (by decide) (by decide) rfl)
theorem ogR_2215_10 (hR : RA R) : gR (mg 4625 I J R) 2215 3 10 = some 2231 := e_gR (by decide) rfl (hR.get (by decide) (by decide) rfl)
theorem ogR_2215_11 (hR : RA R) : gR (mg 4625 I J R) 2215 3 11 = some 2236 := e_gR (by decide) rfl (hR.get (by decide) (by decide) rfl)
theorem ogR_2215_12 (hR : RA R) : gR (mg 4625 I J R) 2215 3 12 = some 2241 := e_gR (by decide) rfl (hR.get (by decide) (by decide) rfl)
theorem ok_4541 : xk (mg 4625 I J R) 4541 2 = true := me_xk (by decide) rfl
theorem ogI_4541 {k : Nat} : gI (mg 4625 I J R) 4541 2 k = some (I 4541 k) := e_gI (by decide) rfl
theorem osI_4541 {k : Nat} {v : Int32} : sI (mg 4625 I J R) 4541 2 k v = some (mg 4625 (va_up I 4541 (va_up (I 4541) k v)) J R) := e_sI (by decide) rfl
theorem osZ_4541 {k : Nat} {v : Int32} : sZ (mg 4625 I J R) 4541 2 k v = if (v == 0 || v == 1) = true then some (mg 4625 (va_up I 4541 (va_up (I 4541) k v)) J R) else none := e_sZ1 (by decide) rfl
theorem ogR_4541_0 (hR : RA R) : gR (mg 4625 I J R) 4541 2 0 = some 4542 := e_gR (by decide) rfl (hR.get (by decide) (by decide) rfl)
theorem ogR_4541_1 (hR : RA R) : gR (mg 4625 I J R) 4541 2 1 = some 4544 := e_gR (by decide) rfl (hR.get (by decide) (by decide) rfl)
theorem ok_4546 : xk (mg 4625 I J R) 4546 2 = true := me_xk (by decide) rfl
theorem ogI_4546 {k : Nat} : gI (mg 4625 I J R) 4546 2 k = some (I 4546 k) := e_gI (by decide) rfl
theorem osI_4546 {k : Nat} {v : Int32} : sI (mg 4625 I J R) 4546 2 k v = some (mg 4625 (va_up I 4546 (va_up (I 4546) k v)) J R) := e_sI (by decide) rfl
theorem osZ_4546 {k : Nat} {v : Int32} : sZ (mg 4625 I J R) 4546 2 k v = if (v == 0 || v == 1) = true then some (mg 4625 (va_up I 4546 (va_up (I 4546) k v)) J R) else none := e_sZ1 (by decide) rfl
theorem ogR_4546_0 (hR : RA R) : gR (mg 4625 I J R) 4546 2 0 = some 4547 := e_gR (by decide) rfl (hR.get (by decide) (by decide) rfl)
theorem ogR_4546_1 (hR : RA R) : gR (mg 4625 I J R) 4546 2 1 = some 4549 := e_gR (by decide) rfl (hR.get (by decide) (by decide) rfl)
theorem ok_4551 : xk (mg 4625 I J R) 4551 9 = true := me_xk (by decide) rfl
theorem ogI_4551 {k : Nat} : gI (mg 4625 I J R) 4551 9 k = some (I 4551 k) := e_gI (by decide) rfl
theorem osI_4551 {k : Nat} {v : Int32} : sI (mg 4625 I J R) 4551 9 k v = some (mg 4625 (va_up I 4551 (va_up (I 4551) k v)) J R) := e_sI (by decide) rfl
theorem osZ_4551 {k : Nat} {v : Int32} : sZ (mg 4625 I J R) 4551 9 k v = if (v == 0 || v == 1) = true then some (mg 4625 (va_up I 4551 (va_up (I 4551) k v)) J R) else none := e_sZ1 (by decide) rfl
theorem ogR_4551_0 (hR : RA R) : gR (mg 4625 I J R) 4551 9 0 = some 4552 := e_gR (by decide) rfl (hR.get (by decide) (by decide) rfl)
theorem ogR_4551_1 (hR : RA R) : gR (mg 4625 I J R) 4551 9 1 = some 4553 := e_gR (by decide) rfl (hR.get (by decide) (by decide) rfl)
theorem ogR_4551_2 (hR : RA R) : gR (mg 4625 I J R) 4551 9 2 = some 4554 := e_gR (by decide) rfl (hR.get (by decide) (by decide) rfl)
theorem ogR_4551_3 (hR : RA R) : gR (mg 4625 I J R) 4551 9 3 = some 4555 := e_gR (by decide) rfl (hR.get (by decide) (by decide) rfl)
theorem ogR_4551_4 (hR : RA R) : gR (mg 4625 I J R) 4551 9 4 = some 4556 := e_gR (by decide) rfl (hR.get (by decide) (by decide) rfl)
theorem ogR_4551_5 (hR : RA R) : gR (mg 4625 I J R) 4551 9 5 = some 4557 := e_gR (by decide) rfl (hR.get (by decide) (by decide) rfl)
theorem ogR_4551_6 (hR : RA R) : gR (mg 4625 I J R) 4551 9 6 = some 4558 := e_gR (by decide) rfl (hR.get (by decide) (by decide) rfl)
theorem ok_551 : xk (mg 4625 I J R) 551 9 = true := me_xk (by decide) rfl
theorem ogI_551 {k : Nat} : gI (mg 4625 I J R) 551 9 k = some (I 551 k) := e_gI (by decide) rfl
theorem osI_551 {k : Nat} {v : Int32} : sI (mg 4625 I J R) 551 9 k v = some (mg 4625 (va_up I 551 (va_up (I 551) k v)) J R) := e_sI (by decide) rfl
theorem osZ_551 {k : Nat} {v : Int32} : sZ (mg 4625 I J R) 551 9 k v = if (v == 0 || v == 1) = true then some (mg 4625 (va_up I 551 (va_up (I 551) k v)) J R) else none := e_sZ1 (by decide) rfl
theorem ogR_551_0 (hR : RA R) : gR (mg 4625 I J R) 551 9 0 = some 552 := e_gR (by decide) rfl (hR.get (by decide) (by decide) rfl)
theorem ogR_551_1 (hR : RA R) : gR (mg 4625 I J R) 551 9 1 = some 553 := e_gR (by decide) rfl (hR.get (by decide) (by decide) rfl)
theorem ogR_551_2 (hR : RA R) : gR (mg 4625 I J R) 551 9 2 = some 554 := e_gR (by decide) rfl (hR.get (by decide) (by decide) rfl)
theorem ogR_551_3 (hR : RA R) : gR (mg 4625 I J R) 551 9 3 = some 555 := e_gR (by decide) rfl (hR.get (by decide) (by decide) rfl)
theorem ogR_551_4 (hR : RA R) : gR (mg 4625 I J R) 551 9 4 = some 556 := e_gR (by decide) rfl (hR.get (by decide) (by decide) rfl)
theorem ogR_551_5 (hR : RA R) : gR (mg 4625 I J R) 551 9 5 = some 557 := e_gR (by decide) rfl (hR.get (by decide) (by decide) rfl)
theorem ogR_551_6 (hR : RA R) : gR (mg 4625 I J R) 551 9 6 = some 558 := e_gR (by decide) rfl (hR.get (by decide) (by decide) rfl)
theorem ok_2207 : xk (mg 4625 I J R) 2207 9 = true := me_xk (by decide) rfl
theorem ogI_2207 {k : Nat} : gI (mg 4625 I J R) 2207 9 k = some (I 2207 k) := e_gI (by decide) rfl
theorem osI_2207 {k : Nat} {v : Int32} : sI (mg 4625 I J R) 2207 9 k v = some (mg 4625 (va_up I 2207 (va_up (I 2207) k v)) J R) := e_sI (by decide) rfl
theorem osZ_2207 {k : Nat} {v : Int32} : sZ (mg 4625 I J R) 2207 9 k v = if (v == 0 || v == 1) = true then some (mg 4625 (va_up I 2207 (va_up (I 2207) k v)) J R) else none := e_sZ1 (by decide) rfl
theorem ogR_2207_0 (hR : RA R) : gR (mg 4625 I J R) 2207 9 0 = some 2208 := e_gR (by decide) rfl (hR.get (by decide) (by decide) rfl)
theorem ogR_2207_1 (hR : RA R) : gR (mg 4625 I J R) 2207 9 1 = some 2209 := e_gR (by decide) rfl (hR.get (by decide) (by decide) rfl)
theorem ogR_2207_2 (hR : RA R) : gR (mg 4625 I J R) 2207 9 2 = some 2210 := e_gR (by decide) rfl (hR.get (by decide) (by decide) rfl)
theorem ogR_2207_3 (hR : RA R) : gR (mg 4625 I J R) 2207 9 3 = some 2211 := e_gR (by decide) rfl (hR.get (by decide) (by decide) rfl)
theorem ogR_2207_4 (hR : RA R) : gR (mg 4625 I J R) 2207 9 4 = some 2212 := e_gR (by decide) rfl (hR.get (by decide) (by decide) rfl)
theorem ogR_2207_5 (hR : RA R) : gR (mg 4625 I J R) 2207 9 5 = some 2213 := e_gR (by decide) rfl (hR.get (by decide) (by decide) rfl)
theorem ogR_2207_6 (hR : RA R) : gR (mg 4625 I J R) 2207 9 6 = some 2214 := e_gR (by decide) rfl (hR.get (by decide) (by decide) rfl)
theorem ok_4561 : xk (mg 4625 I J R) 4561 12 = true := me_xk (by decide) rfl
theorem ogI_4561 {k : Nat} : gI (mg 4625 I J R) 4561 12 k = some (I 4561 k) := e_gI (by decide) rfl
theorem osI_4561 {k : Nat} {v : Int32} : sI (mg 4625 I J R) 4561 12 k v = some (mg 4625 (va_up I 4561 (va_up (I 4561) k v)) J R) := e_sI (by decide) rfl
theorem osZ_4561 {k : Nat} {v : Int32} : sZ (mg 4625 I J R) 4561 12 k v = if (v == 0 || v == 1) = true then some (mg 4625 (va_up I 4561 (va_up (I 4561) k v)) J R) else none := e_sZ1 (by decide) rfl
theorem ogR_4561_1 (hR : RA R) : gR (mg 4625 I J R) 4561 12 1 = some 4562 := e_gR (by decide) rfl (hR.get (by decide) (by decide) rfl)
theorem ogR_4561_2 (hR : RA R) : gR (mg 4625 I J R) 4561 12 2 = some 4563 := e_gR (by decide) rfl (hR.get (by decide) (by decide) rfl)
theorem ogR_4561_3 (hR : RA R) : gR (mg 4625 I J R) 4561 12 3 = some 4564 := e_gR (by decide) rfl (hR.get (by decide) (by decide) rfl)
theorem ogR_4561_4 (hR : RA R) : gR (mg 4625 I J R) 4561 12 4 = some 4565 := e_gR (by decide) rfl (hR.get (by decide) (by decide) rfl)
theorem ogR_4561_5 (hR : RA R) : gR (mg 4625 I J R) 4561 12 5 = some 4566 := e_gR (by decide) rfl (hR.get (by decide) (by decide) rfl)
theorem ogR_4561_6 (hR : RA R) : gR (mg 4625 I J R) 4561 12 6 = some 4567 := e_gR (by decide) rfl (hR.get (by decide) (by decide) rfl)
theorem ogR_4561_7 (hR : RA R) : gR (mg 4625 I J R) 4561 12 7 = some 4568 := e_gR (by decide) rfl (hR.get (by decide) (by decide) rfl)
theorem ogR_4561_8 (hR : RA R) : gR (mg 4625 I J R) 4561 12 8 = some 4569 := e_gR (by decide) rfl (hR.get (by decide) (by decide) rfl)
theorem ogR_4561_9 (hR : RA R) : gR (mg 4625 I J R) 4561 12 9 = some 4570 := e_gR (by decide) rfl (hR.get (by decide) (by decide) rfl)
theorem ogR_4561_11 (hR : RA R) : gR (mg 4625 I J R) 4561 12 11 = some 4571 := e_gR (by decide) rfl (hR.get (by decide) (by decide) rfl)
theorem ogR_4561_12 (hR : RA R) : gR (mg 4625 I J R) 4561 12 12 = some 4572 := e_gR (by decide) rfl (hR.get (by decide) (by decide) rfl)
theorem ogR_4561_13 (hR : RA R) : gR (mg 4625 I J R) 4561 12 13 = some 4573 := e_gR (by decide) rfl (hR.get (by decide) (by decide) rfl)
theorem ogR_4561_14 (hR : RA R) : gR (mg 4625 I J R) 4561 12 14 = some 4574 := e_gR (by decide) rfl (hR.get (by decide) (by decide) rfl)
theorem ogR_4561_15 (hR : RA R) : gR (mg 4625 I J R) 4561 12 15 = some 4575 := e_gR (by decide) rfl (hR.get (by decide) (by decide) rfl)
theorem ogR_4561_16 (hR : RA R) : gR (mg 4625 I J R) 4561 12 16 = some 4576 := e_gR (by decide) rfl (hR.get (by decide) (by decide) rfl)
theorem ogR_4561_17 (hR : RA R) : gR (mg 4625 I J R) 4561 12 17 = some 4577 := e_gR (by decide) rfl (hR.get (by decide) (by decide) rfl)
theorem ogR_4561_18 (hR : RA R) : gR (mg 4625 I J R) 4561 12 18 = some 4578 := e_gR (by decide) rfl (hR.get (by decide) (by decide) rfl)
theorem ogR_4561_20 (hR : RA R) : gR (mg 4625 I J R) 4561 12 20 = some 4579 := e_gR (by decide) rfl (hR.get (by decide) (by decide) rfl)
theorem ogR_4561_21 (hR : RA R) : gR (mg 4625 I J R) 4561 12 21 = some 4580 := e_gR (by decide) rfl (hR.get (by decide) (by decide) rfl)
theorem ogR_4561_22 (hR : RA R) : gR (mg 4625 I J R) 4561 12 22 = some 4581 := e_gR (by decide) rfl (hR.get (by decide) (by decide) rfl)
theorem ogR_4561_23 (hR : RA R) : gR (mg 4625 I J R) 4561 12 23 = some 4582 := e_gR (by decide) rfl (hR.get (by decide) (by decide) rfl)
theorem ogR_4561_24 (hR : RA R) : gR (mg 4625 I J R) 4561 12 24 = some 4583 := e_gR (by decide) rfl (hR.get (by decide) (by decide) rfl)
theorem ogR_4561_27 (hR : RA R) : gR (mg 4625 I J R) 4561 12 27 = some 4584 := e_gR (by decide) rfl (hR.get (by decide) (by decide) rfl)
theorem ogR_4561_28 (hR : RA R) : gR (mg 4625 I J R) 4561 12 28 = some 4585 := e_gR (by decide) rfl (hR.get (by decide) (by decide) rfl)
theorem ogR_4561_29 (hR : RA R) : gR (mg 4625 I J R) 4561 12 29 = some 4586 := e_gR (by decide) rfl (hR.get (by decide) (by decide) rfl)
theorem ogR_4561_30 (hR : RA R) : gR (mg 4625 I J R) 4561 12 30 = some 4587 := e_gR (by decide) rfl (hR.get (by decide) (by decide) rfl)
theorem ogR_4561_31 (hR : RA R) : gR (mg 4625 I J R) 4561 12 31 = some 4588 := e_gR (by decide) rfl (hR.get (by decide) (by decide) rfl)
theorem ogR_4561_32 (hR : RA R) : gR (mg 4625 I J R) 4561 12 32 = some 4589 := e_gR (by decide) rfl (hR.get (by decide) (by decide) rfl)
theorem ogR_4561_34 (hR : RA R) : gR (mg 4625 I J R) 4561 12 34 = some 4590 := e_gR (by decide) rfl (hR.get (by decide) (by decide) rfl)
theorem ogR_4561_35 (hR : RA R) : gR (mg 4625 I J R) 4561 12 35 = some 4591 := e_gR (by decide) rfl (hR.get (by decide) (by decide) rfl)
theorem ogR_4561_37 (hR : RA R) : gR (mg 4625 I J R) 4561 12 37 = some 4592 := e_gR (by decide) rfl (hR.get (by decide) (by decide) rfl)
theorem ogR_4561_38 (hR : RA R) : gR (mg 4625 I J R) 4561 12 38 = some 4593 := e_gR (by decide) rfl (hR.get (by decide) (by decide) rfl)
theorem ogR_4561_39 (hR : RA R) : gR (mg 4625 I J R) 4561 12 39 = some 4594 := e_gR (by decide) rfl (hR.get (by decide) (by decide) rfl)
theorem ogR_4561_41 (hR : RA R) : gR (mg 4625 I J R) 4561 12 41 = some 4595 := e_gR (by decide) rfl (hR.get (by decide) (by decide) rfl)
theorem ogR_4561_43 (hR : RA R) : gR (mg 4625 I J R) 4561 12 43 = some 4596 := e_gR (by decide) rfl (hR.get (by decide) (by decide) rfl)
theorem ogR_4561_44 (hR : RA R) : gR (mg 4625 I J R) 4561 12 44 = some 4597 := e_gR (by decide) rfl (hR.get (by decide) (by decide) rfl)
theorem ogR_4561_46 (hR : RA R) : gR (mg 4625 I J R) 4561 12 46 = some 4598 := e_gR (by decide) rfl (hR.get (by decide) (by decide) rfl)
theorem ogR_4561_47 (hR : RA R) : gR (mg 4625 I J R) 4561 12 47 = some 4599 := e_gR (by decide) rfl (hR.get (by decide) (by decide) rfl)
theorem ogR_4561_48 (hR : RA R) : gR (mg 4625 I J R) 4561 12 48 = some 4600 := e_gR (by decide) rfl (hR.get (by decide) (by decide) rfl)
theorem ogR_4561_49 (hR : RA R) : gR (mg 4625 I J R) 4561 12 49 = some 4601 := e_gR (by decide) rfl (hR.get (by decide) (by decide) rfl)
theorem ogR_4561_50 (hR : RA R) : gR (mg 4625 I J R) 4561 12 50 = some 4602 := e_gR (by decide) rfl (hR.get (by decide) (by decide) rfl)
theorem ogR_4561_51 (hR : RA R) : gR (mg 4625 I J R) 4561 12 51 = some 4603 := e_gR (by decide) rfl (hR.get (by decide) (by decide) rfl)
theorem ogR_4561_52 (hR : RA R) : gR (mg 4625 I J R) 4561 12 52 = some 4604 := e_gR (by decide) rfl (hR.get (by decide) (by decide) rfl)
theorem ogR_4561_53 (hR : RA R) : gR (mg 4625 I J R) 4561 12 53 = some 4605 := e_gR (by decide) rfl (hR.get (by decide) (by decide) rfl)
theorem ogR_4561_54 (hR : RA R) : gR (mg 4625 I J R) 4561 12 54 = some 4606 := e_gR (by decide) rfl (hR.get (by decide) (by decide) rfl)
theorem ogR_4561_55 (hR : RA R) : gR (mg 4625 I J R) 4561 12 55 = some 4607 := e_gR (by decide) rfl (hR.get (by decide) (by decide) rfl)
theorem ogR_4561_57 (hR : RA R) : gR (mg 4625 I J R) 4561 12 57 = some 4608 := e_gR (by decide) rfl (hR.get (by decide) (by decide) rfl)
theorem ogR_4561_58 (hR : RA R) : gR (mg 4625 I J R) 4561 12 58 = some 4609 := e_gR (by decide) rfl (hR.get (by decide) (by decide) rfl)
theorem ogR_4561_59 (hR : RA R) : gR (mg 4625 I J R) 4561 12 59 = some 4610 := e_gR (by decide) rfl (hR.get (by decide) (by decide) rfl)
theorem ogR_4561_65 (hR : RA R) : gR (mg 4625 I J R) 4561 12 65 = some 4611 := e_gR (by decide) rfl (hR.get (by decide) (by decide) rfl)
theorem ogR_4561_66 (hR : RA R) : gR (mg 4625 I J R) 4561 12 66 = some 4612 := e_gR (by decide) rfl (hR.get (by decide) (by decide) rfl)
theorem ogR_4561_70 (hR : RA R) : gR (mg 4625 I J R) 4561 12 70 = some 4613 := e_gR (by decide) rfl (hR.get (by decide) (by decide) rfl)
theorem ogR_4561_71 (hR : RA R) : gR (mg 4625 I J R) 4561 12 71 = some 4614 := e_gR (by decide) rfl (hR.get (by decide) (by decide) rfl)
theorem ogR_4561_72 (hR : RA R) : gR (mg 4625 I J R) 4561 12 72 = some 4615 := e_gR (by decide) rfl (hR.get (by decide) (by decide) rfl)
theorem ogR_4561_73 (hR : RA R) : gR (mg 4625 I J R) 4561 12 73 = some 4616 := e_gR (by decide) rfl (hR.get (by decide) (by decide) rfl)
theorem ogR_4561_77 (hR : RA R) : gR (mg 4625 I J R) 4561 12 77 = some 4617 := e_gR (by decide) rfl (hR.get (by decide) (by decide) rfl)
theorem ogR_4561_78 (hR : RA R) : gR (mg 4625 I J R) 4561 12 78 = some 4618 := e_gR (by decide) rfl (hR.get (by decide) (by decide) rfl)
theorem ogR_4561_79 (hR : RA R) : gR (mg 4625 I J R) 4561 12 79 = some 4619 := e_gR (by decide) rfl (hR.get (by decide) (by decide) rfl)
theorem ogR_4561_80 (hR : RA R) : gR (mg 4625 I J R) 4561 12 80 = some 4620 := e_gR (by decide) rfl (hR.get (by decide) (by decide) rfl)
theorem ogR_4561_81 (hR : RA R) : gR (mg 4625 I J R) 4561 12 81 = some 4621 := e_gR (by decide) rfl (hR.get (by decide) (by decide) rfl)
theorem ogR_4561_82 (hR : RA R) : gR (mg 4625 I J R) 4561 12 82 = some 4622 := e_gR (by decide) rfl (hR.get (by decide) (by decide) rfl)
theorem ogR_4561_85 (hR : RA R) : gR (mg 4625 I J R) 4561 12 85 = some 4623 := e_gR (by decide) rfl (hR.get (by decide) (by decide) rfl)
theorem ok_2 : xk (mg 4625 I J R) 2 10 = true := me_xk (by decide) rfl
theorem ogI_2 {k : Nat} : gI (mg 4625 I J R) 2 10 k = some (I 2 k) := e_gI (by decide) rfl
theorem osI_2 {k : Nat} {v : Int32} : sI (mg 4625 I J R) 2 10 k v = some (mg 4625 (va_up I 2 (va_up (I 2) k v)) J R) := e_sI (by decide) rfl
theorem osZ_2 {k : Nat} {v : Int32} : sZ (mg 4625 I J R) 2 10 k v = if (v == 0 || v == 1) = true then some (mg 4625 (va_up I 2 (va_up (I 2) k v)) J R) else none := e_sZ1 (by decide) rfl
theorem ogR_2_0 (hR : RA R) : gR (mg 4625 I J R) 2 10 0 = some 3 := e_gR (by decide) rfl (hR.get (by decide) (by decide) rfl)
theorem ok_4 : xk (mg 4625 I J R) 4 10 = true := me_xk (by decide) rfl
theorem ogI_4 {k : Nat} : gI (mg 4625 I J R) 4 10 k = some (I 4 k) := e_gI (by decide) rfl
theorem osI_4 {k : Nat} {v : Int32} : sI (mg 4625 I J R) 4 10 k v = some (mg 4625 (va_up I 4 (va_up (I 4) k v)) J R) := e_sI (by decide) rfl
theorem osZ_4 {k : Nat} {v : Int32} : sZ (mg 4625 I J R) 4 10 k v = if (v == 0 || v == 1) = true then some (mg 4625 (va_up I 4 (va_up (I 4) k v)) J R) else none := e_sZ1 (by decide) rfl
theorem ogR_4_0 (hR : RA R) : gR (mg 4625 I J R) 4 10 0 = some 5 := e_gR (by decide) rfl (hR.get (by decide) (by decide) rfl)
theorem ok_6 : xk (mg 4625 I J R) 6 10 = true := me_xk (by decide) rfl
theorem ogI_6 {k : Nat} : gI (mg 4625 I J R) 6 10 k = some (I 6 k) := e_gI (by decide) rfl
theorem osI_6 {k : Nat} {v : Int32} : sI (mg 4625 I J R) 6 10 k v = some (mg 4625 (va_up I 6 (va_up (I 6) k v)) J R) := e_sI (by decide) rfl
theorem osZ_6 {k : Nat} {v : Int32} : sZ (mg 4625 I J R) 6 10 k v = if (v == 0 || v == 1) = true then some (mg 4625 (va_up I 6 (va_up (I 6) k v)) J R) else none := e_sZ1 (by decide) rfl
theorem ogR_6_0 (hR : RA R) : gR (mg 4625 I J R) 6 10 0 = some 7 := e_gR (by decide) rfl (hR.get (by decide) (by decide) rfl)
theorem ok_8 : xk (mg 4625 I J R) 8 10 = true := me_xk (by decide) rfl
theorem ogI_8 {k : Nat} : gI (mg 4625 I J R) 8 10 k = some (I 8 k) := e_gI (by decide) rfl
theorem osI_8 {k : Nat} {v : Int32} : sI (mg 4625 I J R) 8 10 k v = some (mg 4625 (va_up I 8 (va_up (I 8) k v)) J R) := e_sI (by decide) rfl
theorem osZ_8 {k : Nat} {v : Int32} : sZ (mg 4625 I J R) 8 10 k v = if (v == 0 || v == 1) = true then some (mg 4625 (va_up I 8 (va_up (I 8) k v)) J R) else none := e_sZ1 (by decide) rfl
theorem ogR_8_0 (hR : RA R) : gR (mg 4625 I J R) 8 10 0 = some 9 := e_gR (by decide) rfl (hR.get (by decide) (by decide) rfl)
theorem ok_560 : xk (mg 4625 I J R) 560 10 = true := me_xk (by decide) rfl
theorem ogI_560 {k : Nat} : gI (mg 4625 I J R) 560 10 k = some (I 560 k) := e_gI (by decide) rfl
theorem osI_560 {k : Nat} {v : Int32} : sI (mg 4625 I J R) 560 10 k v = some (mg 4625 (va_up I 560 (va_up (I 560) k v)) J R) := e_sI (by decide) rfl
theorem osZ_560 {k : Nat} {v : Int32} : sZ (mg 4625 I J R) 560 10 k v = if (v == 0 || v == 1) = true then some (mg 4625 (va_up I 560 (va_up (I 560) k v)) J R) else none := e_sZ1 (by decide) rfl
theorem ogR_560_0 (hR : RA R) : gR (mg 4625 I J R) 560 10 0 = some 561 := e_gR (by decide) rfl (hR.get (by decide) (by decide) rfl)
theorem ok_564 : xk (mg 4625 I J R) 564 10 = true := me_xk (by decide) rfl
theorem ogI_564 {k : Nat} : gI (mg 4625 I J R) 564 10 k = some (I 564 k) := e_gI (by decide) rfl
theorem osI_564 {k : Nat} {v : Int32} : sI (mg 4625 I J R) 564 10 k v = some (mg 4625 (va_up I 564 (va_up (I 564) k v)) J R) := e_sI (by decide) rfl
theorem osZ_564 {k : Nat} {v : Int32} : sZ (mg 4625 I J R) 564 10 k v = if (v == 0 || v == 1) = true then some (mg 4625 (va_up I 564 (va_up (I 564) k v)) J R) else none := e_sZ1 (by decide) rfl
theorem ogR_564_0 (hR : RA R) : gR (mg 4625 I J R) 564 10 0 = some 565 := e_gR (by decide) rfl (hR.get (by decide) (by decide) rfl)
theorem ok_569 : xk (mg 4625 I J R) 569 2 = true := me_xk (by decide) rfl
theorem ogI_569 {k : Nat} : gI (mg 4625 I J R) 569 2 k = some (I 569 k) := e_gI (by decide) rfl
theorem osI_569 {k : Nat} {v : Int32} : sI (mg 4625 I J R) 569 2 k v = some (mg 4625 (va_up I 569 (va_up (I 569) k v)) J R) := e_sI (by decide) rfl
theorem osZ_569 {k : Nat} {v : Int32} : sZ (mg 4625 I J R) 569 2 k v = if (v == 0 || v == 1) = true then some (mg 4625 (va_up I 569 (va_up (I 569) k v)) J R) else none := e_sZ1 (by decide) rfl
theorem ogR_569_0 (hR : RA R) : gR (mg 4625 I J R) 569 2 0 = some 570 := e_gR (by decide) rfl (hR.get (by decide) (by decide) rfl)
theorem ogR_569_1 (hR : RA R) : gR (mg 4625 I J R) 569 2 1 = some 572 := e_gR (by decide) rfl (hR.get (by decide) (by decide) rfl)
theorem ok_1786 : xk (mg 4625 I J R) 1786 2 = true := me_xk (by decide) rfl
theorem ogI_1786 {k : Nat} : gI (mg 4625 I J R) 1786 2 k = some (I 1786 k) := e_gI (by decide) rfl
theorem osI_1786 {k : Nat} {v : Int32} : sI (mg 4625 I J R) 1786 2 k v = some (mg 4625 (va_up I 1786 (va_up (I 1786) k v)) J R) := e_sI (by decide) rfl
theorem osZ_1786 {k : Nat} {v : Int32} : sZ (mg 4625 I J R) 1786 2 k v = if (v == 0 || v == 1) = true then some (mg 4625 (va_up I 1786 (va_up (I 1786) k v)) J R) else none := e_sZ1 (by decide) rfl
theorem ogR_1786_0 (hR : RA R) : gR (mg 4625 I J R) 1786 2 0 = some 1787 := e_gR (by decide) rfl (hR.get (by decide) (by decide) rfl)
theorem ogR_1786_1 (hR : RA R) : gR (mg 4625 I J R) 1786 2 1 = some 1789 := e_gR (by decide) rfl (hR.get (by decide) (by decide) rfl)
theorem ok_1791 : xk (mg 4625 I J R) 1791 2 = true := me_xk (by decide) rfl
theorem ogI_1791 {k : Nat} : gI (mg 4625 I J R) 1791 2 k = some (I 1791 k) := e_gI (by decide) rfl
theorem osI_1791 {k : Nat} {v : Int32} : sI (mg 4625 I J R) 1791 2 k v = some (mg 4625 (va_up I 1791 (va_up (I 1791) k v)) J R) := e_sI (by decide) rfl
theorem osZ_1791 {k : Nat} {v : Int32} : sZ (mg 4625 I J R) 1791 2 k v = if (v == 0 || v == 1) = true then some (mg 4625 (va_up I 1791 (va_up (I 1791) k v)) J R) else none := e_sZ1 (by decide) rfl
theorem ogR_1791_0 (hR : RA R) : gR (mg 4625 I J R) 1791 2 0 = some 1792 := e_gR (by decide) rfl (hR.get (by decide) (by decide) rfl)
theorem ogR_1791_1 (hR : RA R) : gR (mg 4625 I J R) 1791 2 1 = some 1794 := e_gR (by decide) rfl (hR.get (by decide) (by decide) rfl)
theorem ok_1796 : xk (mg 4625 I J R) 1796 2 = true := me_xk (by decide) rfl
theorem ogI_1796 {k : Nat} : gI (mg 4625 I J R) 1796 2 k = some (I 1796 k) := e_gI (by decide) rfl
theorem osI_1796 {k : Nat} {v : Int32} : sI (mg 4625 I J R) 1796 2 k v = some (mg 4625 (va_up I 1796 (va_up (I 1796) k v)) J R) := e_sI (by decide) rfl
theorem osZ_1796 {k : Nat} {v : Int32} : sZ (mg 4625 I J R) 1796 2 k v = if (v == 0 || v == 1) = true then some (mg 4625 (va_up I 1796 (va_up (I 1796) k v)) J R) else none := e_sZ1 (by decide) rfl
theorem ogR_1796_0 (hR : RA R) : gR (mg 4625 I J R) 1796 2 0 = some 1797 := e_gR (by decide) rfl (hR.get (by decide) (by decide) rfl)
theorem ogR_1796_1 (hR : RA R) : gR (mg 4625 I J R) 1796 2 1 = some 1799 := e_gR (by decide) rfl (hR.get (by decide) (by decide) rfl)
theorem ok_1801 : xk (mg 4625 I J R) 1801 2 = true := me_xk (by decide) rfl
theorem ogI_1801 {k : Nat} : gI (mg 4625 I J R) 1801 2 k = some (I 1801 k) := e_gI (by decide) rfl
theorem osI_1801 {k : Nat} {v : Int32} : sI (mg 4625 I J R) 1801 2 k v = some (mg 4625 (va_up I 1801 (va_up (I 1801) k v)) J R) := e_sI (by decide) rfl
theorem osZ_1801 {k : Nat} {v : Int32} : sZ (mg 4625 I J R) 1801 2 k v = if (v == 0 || v == 1) = true then some (mg 4625 (va_up I 1801 (va_up (I 1801) k v)) J R) else none := e_sZ1 (by decide) rfl
theorem ogR_1801_0 (hR : RA R) : gR (mg 4625 I J R) 1801 2 0 = some 1802 := e_gR (by decide) rfl (hR.get (by decide) (by decide) rfl)
theorem ogR_1801_1 (hR : RA R) : gR (mg 4625 I J R) 1801 2 1 = some 1804 := e_gR (by decide) rfl (hR.get (by decide) (by decide) rfl)
theorem ok_2220 : xk (mg 4625 I J R) 2220 2 = true := me_xk (by decide) rfl
theorem ogI_2220 {k : Nat} : gI (mg 4625 I J R) 2220 2 k = some (I 2220 k) := e_gI (by decide) rfl
theorem osI_2220 {k : Nat} {v : Int32} : sI (mg 4625 I J R) 2220 2 k v = some (mg 4625 (va_up I 2220 (va_up (I 2220) k v)) J R) := e_sI (by decide) rfl
theorem osZ_2220 {k : Nat} {v : Int32} : sZ (mg 4625 I J R) 2220 2 k v = if (v == 0 || v == 1) = true then some (mg 4625 (va_up I 2220 (va_up (I 2220) k v)) J R) else none := e_sZ1 (by decide) rfl
theorem ogR_2220_0 (hR : RA R) : gR (mg 4625 I J R) 2220 2 0 = some 2221 := e_gR (by decide) rfl (hR.get (by decide) (by decide) rfl)
theorem ogR_2220_1 (hR : RA R) : gR (mg 4625 I J R) 2220 2 1 = some 2223 := e_gR (by decide) rfl (hR.get (by decide) (by decide) rfl)
theorem ok_2225 : xk (mg 4625 I J R) 2225 2 = true := me_xk (by decide) rfl
theorem ogI_2225 {k : Nat} : gI (mg 4625 I J R) 2225 2 k = some (I 2225 k) := e_gI (by decide) rfl
theorem osI_2225 {k : Nat} {v : Int32} : sI (mg 4625 I J R) 2225 2 k v = some (mg 4625 (va_up I 2225 (va_up (I 2225) k v)) J R) := e_sI (by decide) rfl
theorem osZ_2225 {k : Nat} {v : Int32} : sZ (mg 4625 I J R) 2225 2 k v = if (v == 0 || v == 1) = true then some (mg 4625 (va_up I 2225 (va_up (I 2225) k v)) J R) else none := e_sZ1 (by decide) rfl
theorem ogR_2225_0 (hR : RA R) : gR (mg 4625 I J R) 2225 2 0 = some 2226 := e_gR (by decide) rfl (hR.get (by decide) (by decide) rfl)
theorem ogR_2225_1 (hR : RA R) : gR (mg 4625 I J R) 2225 2 1 = some 2228 := e_gR (by decide) rfl (hR.get (by decide) (by decide) rfl)
theorem ok_2231 : xk (mg 4625 I J R) 2231 2 = true := me_xk (by decide) rfl
theorem ogI_2231 {k : Nat} : gI (mg 4625 I J R) 2231 2 k = some (I 2231 k) := e_gI (by decide) rfl
theorem osI_2231 {k : Nat} {v : Int32} : sI (mg 4625 I J R) 2231 2 k v = some (mg 4625 (va_up I 2231 (va_up (I 2231) k v)) J R) := e_sI (by decide) rfl
theorem osZ_2231 {k : Nat} {v : Int32} : sZ (mg 4625 I J R) 2231 2 k v = if (v == 0 || v == 1) = true then some (mg 4625 (va_up I 2231 (va_up (I 2231) k v)) J R) else none := e_sZ1 (by decide) rfl
theorem ogR_2231_0 (hR : RA R) : gR (mg 4625 I J R) 2231 2 0 = some 2232 := e_gR (by decide) rfl (hR.get (by decide) (by decide) rfl)
theorem ogR_2231_1 (hR : RA R) : gR (mg 4625 I J R) 2231 2 1 = some 2234 := e_gR (by decide) rfl (hR.get (by decide) (by decide) rfl)
theorem ok_2236 : xk (mg 4625 I J R) 2236 2 = true := me_xk (by decide) rfl
theorem ogI_2236 {k : Nat} : gI (mg 4625 I J R) 2236 2 k = some (I 2236 k) := e_gI (by decide) rfl
theorem osI_2236 {k : Nat} {v : Int32} : sI (mg 4625 I J R) 2236 2 k v = some (mg 4625 (va_up I 2236 (va_up (I 2236) k v)) J R) := e_sI (by decide) rfl
theorem osZ_2236 {k : Nat} {v : Int32} : sZ (mg 4625 I J R) 2236 2 k v = if (v == 0 || v == 1) = true then some (mg 4625 (va_up I 2236 (va_up (I 2236) k v)) J R) else none := e_sZ1 (by decide) rfl
theorem ogR_2236_0 (hR : RA R) : gR (mg 4625 I J R) 2236 2 0 = some 2237 := e_gR (by decide) rfl (hR.get (by decide) (by decide) rfl)
theorem ogR_2236_1 (hR : RA R) : gR (mg 4625 I J R) 2236 2 1 = some 2239 := e_gR (by decide) rfl (hR.get (by decide) (by decide) rfl)
theorem ok_2241 : xk (mg 4625 I J R) 2241 2 = true := me_xk (by decide) rfl
theorem ogI_2241 {k : Nat} : gI (mg 4625 I J R) 2241 2 k = some (I 2241 k) := e_gI (by decide) rfl
theorem osI_2241 {k : Nat} {v : Int32} : sI (mg 4625 I J R) 2241 2 k v = some (mg 4625 (va_up I 2241 (va_up (I 2241) k v)) J R) := e_sI (by decide) rfl
theorem osZ_2241 {k : Nat} {v : Int32} : sZ (mg 4625 I J R) 2241 2 k v = if (v == 0 || v == 1) = true then some (mg 4625 (va_up I 2241 (va_up (I 2241) k v)) J R) else none := e_sZ1 (by decide) rfl
theorem ogR_2241_0 (hR : RA R) : gR (mg 4625 I J R) 2241 2 0 = some 2242 := e_gR (by decide) rfl (hR.get (by decide) (by decide) rfl)
theorem ogR_2241_1 (hR : RA R) : gR (mg 4625 I J R) 2241 2 1 = some 2244 := e_gR (by decide) rfl (hR.get (by decide) (by decide) rfl)
theorem ok_570 : xk (mg 4625 I J R) 570 10 = true := me_xk (by decide) rfl
theorem ogI_570 {k : Nat} : gI (mg 4625 I J R) 570 10 k = some (I 570 k) := e_gI (by decide) rfl
theorem osI_570 {k : Nat} {v : Int32} : sI (mg 4625 I J R) 570 10 k v = some (mg 4625 (va_up I 570 (va_up (I 570) k v)) J R) := e_sI (by decide) rfl
theorem osZ_570 {k : Nat} {v : Int32} : sZ (mg 4625 I J R) 570 10 k v = if (v == 0 || v == 1) = true then some (mg 4625 (va_up I 570 (va_up (I 570) k v)) J R) else none := e_sZ1 (by decide) rfl
theorem ogR_570_0 (hR : RA R) : gR (mg 4625 I J R) 570 10 0 = some 571 := e_gR (by decide) rfl (hR.get (by decide) (by decide) rfl)
theorem ok_572 : xk (mg 4625 I J R) 572 10 = true := me_xk (by decide) rfl
theorem ogI_572 {k : Nat} : gI (mg 4625 I J R) 572 10 k = some (I 572 k) := e_gI (by decide) rfl
theorem osI_572 {k : Nat} {v : Int32} : sI (mg 4625 I J R) 572 10 k v = some (mg 4625 (va_up I 572 (va_up (I 572) k v)) J R) := e_sI (by decide) rfl
theorem osZ_572 {k : Nat} {v : Int32} : sZ (mg 4625 I J R) 572 10 k v = if (v == 0 || v == 1) = true then some (mg 4625 (va_up I 572 (va_up (I 572) k v)) J R) else none := e_sZ1 (by decide) rfl
theorem ogR_572_0 (hR : RA R) : gR (mg 4625 I J R) 572 10 0 = some 573 := e_gR (by decide) rfl (hR.get (by decide) (by decide) rfl)
theorem ok_1787 : xk (mg 4625 I J R) 1787 10 = true := me_xk (by decide) rfl
theorem ogI_1787 {k : Nat} : gI (mg 4625 I J R) 1787 10 k = some (I 1787 k) := e_gI (by decide) rfl
theorem osI_1787 {k : Nat} {v : Int32} : sI (mg 4625 I J R) 1787 10 k v = some (mg 4625 (va_up I 1787 (va_up (I 1787) k v)) J R) := e_sI (by decide) rfl
theorem osZ_1787 {k : Nat} {v : Int32} : sZ (mg 4625 I J R) 1787 10 k v = if (v == 0 || v == 1) = true then some (mg 4625 (va_up I 1787 (va_up (I 1787) k v)) J R) else none := e_sZ1 (by decide) rfl
theorem ogR_1787_0 (hR : RA R) : gR (mg 4625 I J R) 1787 10 0 = some 1788 := e_gR (by decide) rfl (hR.get (by decide) (by decide) rfl)
theorem ok_1789 : xk (mg 4625 I J R) 1789 10 = true := me_xk (by decide) rfl
theorem ogI_1789 {k : Nat} : gI (mg 4625 I J R) 1789 10 k = some (I 1789 k) := e_gI (by decide) rfl
theorem osI_1789 {k : Nat} {v : Int32} : sI (mg 4625 I J R) 1789 10 k v = some (mg 4625 (va_up I 1789 (va_up (I 1789) k v)) J R) := e_sI (by decide) rfl
theorem osZ_1789 {k : Nat} {v : Int32} : sZ (mg 4625 I J R) 1789 10 k v = if (v == 0 || v == 1) = true then some (mg 4625 (va_up I 1789 (va_up (I 1789) k v)) J R) else none := e_sZ1 (by decide) rfl
theorem ogR_1789_0 (hR : RA R) : gR (mg 4625 I J R) 1789 10 0 = some 1790 := e_gR (by decide) rfl (hR.get (by decide) (by decide) rfl)
theorem ok_1792 : xk (mg 4625 I J R) 1792 10 = true := me_xk (by decide) rfl
theorem ogI_1792 {k : Nat} : gI (mg 4625 I J R) 1792 10 k = some (I 1792 k) := e_gI (by decide) rfl
theorem osI_1792 {k : Nat} {v : Int32} : sI (mg 4625 I J R) 1792 10 k v = some (mg 4625 (va_up I 1792 (va_up (I 1792) k v)) J R) := e_sI (by decide) rfl
theorem osZ_1792 {k : Nat} {v : Int32} : sZ (mg 4625 I J R) 1792 10 k v = if (v == 0 || v == 1) = true then some (mg 4625 (va_up I 1792 (va_up (I 1792) k v)) J R) else none := e_sZ1 (by decide) rfl
theorem ogR_1792_0 (hR : RA R) : gR (mg 4625 I J R) 1792 10 0 = some 1793 := e_gR (by decide) rfl (hR.get (by decide) (by decide) rfl)
theorem ok_1794 : xk (mg 4625 I J R) 1794 10 = true := me_xk (by decide) rfl
theorem ogI_1794 {k : Nat} : gI (mg 4625 I J R) 1794 10 k = some (I 1794 k) := e_gI (by decide) rfl
theorem osI_1794 {k : Nat} {v : Int32} : sI (mg 4625 I J R) 1794 10 k v = some (mg 4625 (va_up I 1794 (va_up (I 1794) k v)) J R) := e_sI (by decide) rfl
theorem osZ_1794 {k : Nat} {v : Int32} : sZ (mg 4625 I J R) 1794 10 k v = if (v == 0 || v == 1) = true then some (mg 4625 (va_up I 1794 (va_up (I 1794) k v)) J R) else none := e_sZ1 (by decide) rfl
theorem ogR_1794_0 (hR : RA R) : gR (mg 4625 I J R) 1794 10 0 = some 1795 := e_gR (by decide) rfl (hR.get (by decide) (by decide) rfl)
theorem ok_1797 : xk (mg 4625 I J R) 1797 10 = true := me_xk (by decide) rfl
theorem ogI_1797 {k : Nat} : gI (mg 4625 I J R) 1797 10 k = some (I 1797 k) := e_gI (by decide) rfl
theorem osI_1797 {k : Nat} {v : Int32} : sI (mg 4625 I J R) 1797 10 k v = some (mg 4625 (va_up I 1797 (va_up (I 1797) k v)) J R) := e_sI (by decide) rfl
theorem osZ_1797 {k : Nat} {v : Int32} : sZ (mg 4625 I J R) 1797 10 k v = if (v == 0 || v == 1) = true then some (mg 4625 (va_up I 1797 (va_up (I 1797) k v)) J R) else none := e_sZ1 (by decide) rfl
theorem ogR_1797_0 (hR : RA R) : gR (mg 4625 I J R) 1797 10 0 = some 1798 := e_gR (by decide) rfl (hR.get (by decide) (by decide) rfl)
theorem ok_1799 : xk (mg 4625 I J R) 1799 10 = true := me_xk (by decide) rfl
theorem ogI_1799 {k : Nat} : gI (mg 4625 I J R) 1799 10 k = some (I 1799 k) := e_gI (by decide) rfl
theorem osI_1799 {k : Nat} {v : Int32} : sI (mg 4625 I J R) 1799 10 k v = some (mg 4625 (va_up I 1799 (va_up (I 1799) k v)) J R) := e_sI (by decide) rfl
theorem osZ_1799 {k : Nat} {v : Int32} : sZ (mg 4625 I J R) 1799 10 k v = if (v == 0 || v == 1) = true then some (mg 4625 (va_up I 1799 (va_up (I 1799) k v)) J R) else none := e_sZ1 (by decide) rfl
theorem ogR_1799_0 (hR : RA R) : gR (mg 4625 I J R) 1799 10 0 = some 1800 := e_gR (by decide) rfl (hR.get (by decide) (by decide) rfl)
theorem ok_1802 : xk (mg 4625 I J R) 1802 10 = true := me_xk (by decide) rfl
theorem ogI_1802 {k : Nat} : gI (mg 4625 I J R) 1802 10 k = some (I 1802 k) := e_gI (by decide) rfl
theorem osI_1802 {k : Nat} {v : Int32} : sI (mg 4625 I J R) 1802 10 k v = some (mg 4625 (va_up I 1802 (va_up (I 1802) k v)) J R) := e_sI (by decide) rfl
theorem osZ_1802 {k : Nat} {v : Int32} : sZ (mg 4625 I J R) 1802 10 k v = if (v == 0 || v == 1) = true then some (mg 4625 (va_up I 1802 (va_up (I 1802) k v)) J R) else none := e_sZ1 (by decide) rfl
theorem ogR_1802_0 (hR : RA R) : gR (mg 4625 I J R) 1802 10 0 = some 1803 := e_gR (by decide) rfl (hR.get (by decide) (by decide) rfl)
theorem ok_1804 : xk (mg 4625 I J R) 1804 10 = true := me_xk (by decide) rfl
theorem ogI_1804 {k : Nat} : gI (mg 4625 I J R) 1804 10 k = some (I 1804 k) := e_gI (by decide) rfl
theorem osI_1804 {k : Nat} {v : Int32} : sI (mg 4625 I J R) 1804 10 k v = some (mg 4625 (va_up I 1804 (va_up (I 1804) k v)) J R) := e_sI (by decide) rfl
theorem osZ_1804 {k : Nat} {v : Int32} : sZ (mg 4625 I J R) 1804 10 k v = if (v == 0 || v == 1) = true then some (mg 4625 (va_up I 1804 (va_up (I 1804) k v)) J R) else none := e_sZ1 (by decide) rfl
theorem ogR_1804_0 (hR : RA R) : gR (mg 4625 I J R) 1804 10 0 = some 1805 := e_gR (by decide) rfl (hR.get (by decide) (by decide) rfl)
theorem ok_2221 : xk (mg 4625 I J R) 2221 10 = true := me_xk (by decide) rfl
theorem ogI_2221 {k : Nat} : gI (mg 4625 I J R) 2221 10 k = some (I 2221 k) := e_gI (by decide) rfl
theorem osI_2221 {k : Nat} {v : Int32} : sI (mg 4625 I J R) 2221 10 k v = some (mg 4625 (va_up I 2221 (va_up (I 2221) k v)) J R) := e_sI (by decide) rfl
theorem osZ_2221 {k : Nat} {v : Int32} : sZ (mg 4625 I J R) 2221 10 k v = if (v == 0 || v == 1) = true then some (mg 4625 (va_up I 2221 (va_up (I 2221) k v)) J R) else none := e_sZ1 (by decide) rfl
theorem ogR_2221_0 (hR : RA R) : gR (mg 4625 I J R) 2221 10 0 = some 2222 := e_gR (by decide) rfl (hR.get (by decide) (by decide) rfl)
theorem ok_2223 : xk (mg 4625 I J R) 2223 10 = true := me_xk (by decide) rfl
theorem ogI_2223 {k : Nat} : gI (mg 4625 I J R) 2223 10 k = some (I 2223 k) := e_gI (by decide) rfl
theorem osI_2223 {k : Nat} {v : Int32} : sI (mg 4625 I J R) 2223 10 k v = some (mg 4625 (va_up I 2223 (va_up (I 2223) k v)) J R) := e_sI (by decide) rfl
theorem osZ_2223 {k : Nat} {v : Int32} : sZ (mg 4625 I J R) 2223 10 k v = if (v == 0 || v == 1) = true then some (mg 4625 (va_up I 2223 (va_up (I 2223) k v)) J R) else none := e_sZ1 (by decide) rfl
theorem ogR_2223_0 (hR : RA R) : gR (mg 4625 I J R) 2223 10 0 = some 2224 := e_gR (by decide) rfl (hR.get (by decide) (by decide) rfl)
theorem ok_2226 : xk (mg 4625 I J R) 2226 10 = true := me_xk (by decide) rfl
theorem ogI_2226 {k : Nat} : gI (mg 4625 I J R) 2226 10 k = some (I 2226 k) := e_gI (by decide) rfl
theorem osI_2226 {k : Nat} {v : Int32} : sI (mg 4625 I J R) 2226 10 k v = some (mg 4625 (va_up I 2226 (va_up (I 2226) k v)) J R) := e_sI (by decide) rfl
theorem osZ_2226 {k : Nat} {v : Int32} : sZ (mg 4625 I J R) 2226 10 k v = if (v == 0 || v == 1) = true then some (mg 4625 (va_up I 2226 (va_up (I 2226) k v)) J R) else none := e_sZ1 (by decide) rfl
theorem ogR_2226_0 (hR : RA R) : gR (mg 4625 I J R) 2226 10 0 = some 2227 := e_gR (by decide) rfl (hR.get (by decide) (by decide) rfl)
theorem ok_2228 : xk (mg 4625 I J R) 2228 10 = true := me_xk (by decide) rfl
theorem ogI_2228 {k : Nat} : gI (mg 4625 I J R) 2228 10 k = some (I 2228 k) := e_gI (by decide) rfl
theorem osI_2228 {k : Nat} {v : Int32} : sI (mg 4625 I J R) 2228 10 k v = some (mg 4625 (va_up I 2228 (va_up (I 2228) k v)) J R) := e_sI (by decide) rfl
theorem osZ_2228 {k : Nat} {v : Int32} : sZ (mg 4625 I J R) 2228 10 k v = if (v == 0 || v == 1) = true then some (mg 4625 (va_up I 2228 (va_up (I 2228) k v)) J R) else none := e_sZ1 (by decide) rfl
theorem ogR_2228_0 (hR : RA R) : gR (mg 4625 I J R) 2228 10 0 = some 2229 := e_gR (by decide) rfl (hR.get (by decide) (by decide) rfl)
theorem ok_2232 : xk (mg 4625 I J R) 2232 10 = true := me_xk (by decide) rfl
theorem ogI_2232 {k : Nat} : gI (mg 4625 I J R) 2232 10 k = some (I 2232 k) := e_gI (by decide) rfl
theorem osI_2232 {k : Nat} {v : Int32} : sI (mg 4625 I J R) 2232 10 k v = some (mg 4625 (va_up I 2232 (va_up (I 2232) k v)) J R) := e_sI (by decide) rfl
theorem osZ_2232 {k : Nat} {v : Int32} : sZ (mg 4625 I J R) 2232 10 k v = if (v == 0 || v == 1) = true then some (mg 4625 (va_up I 2232 (va_up (I 2232) k v)) J R) else none := e_sZ1 (by decide) rfl
theorem ogR_2232_0 (hR : RA R) : gR (mg 4625 I J R) 2232 10 0 = some 2233 := e_gR (by decide) rfl (hR.get (by decide) (by decide) rfl)
theorem ok_2234 : xk (mg 4625 I J R) 2234 10 = true := me_xk (by decide) rfl
theorem ogI_2234 {k : Nat} : gI (mg 4625 I J R) 2234 10 k = some (I 2234 k) := e_gI (by decide) rfl
theorem osI_2234 {k : Nat} {v : Int32} : sI (mg 4625 I J R) 2234 10 k v = some (mg 4625 (va_up I 2234 (va_up (I 2234) k v)) J R) := e_sI (by decide) rfl
theorem osZ_2234 {k : Nat} {v : Int32} : sZ (mg 4625 I J R) 2234 10 k v = if (v == 0 || v == 1) = true then some (mg 4625 (va_up I 2234 (va_up (I 2234) k v)) J R) else none := e_sZ1 (by decide) rfl
theorem ogR_2234_0 (hR : RA R) : gR (mg 4625 I J R) 2234 10 0 = some 2235 := e_gR (by decide) rfl (hR.get (by decide) (by decide) rfl)
theorem ok_2237 : xk (mg 4625 I J R) 2237 10 = true := me_xk (by decide) rfl
theorem ogI_2237 {k : Nat} : gI (mg 4625 I J R) 2237 10 k = some (I 2237 k) := e_gI (by decide) rfl
theorem osI_2237 {k : Nat} {v : Int32} : sI (mg 4625 I J R) 2237 10 k v = some (mg 4625 (va_up I 2237 (va_up (I 2237) k v)) J R) := e_sI (by decide) rfl
theorem osZ_2237 {k : Nat} {v : Int32} : sZ (mg 4625 I J R) 2237 10 k v = if (v == 0 || v == 1) = true then some (mg 4625 (va_up I 2237 (va_up (I 2237) k v)) J R) else none := e_sZ1 (by decide) rfl
theorem ogR_2237_0 (hR : RA R) : gR (mg 4625 I J R) 2237 10 0 = some 2238 := e_gR (by decide) rfl (hR.get (by decide) (by decide) rfl)
theorem ok_2239 : xk (mg 4625 I J R) 2239 10 = true := me_xk (by decide) rfl
theorem ogI_2239 {k : Nat} : gI (mg 4625 I J R) 2239 10 k = some (I 2239 k) := e_gI (by decide) rfl
theorem osI_2239 {k : Nat} {v : Int32} : sI (mg 4625 I J R) 2239 10 k v = some (mg 4625 (va_up I 2239 (va_up (I 2239) k v)) J R) := e_sI (by decide) rfl
theorem osZ_2239 {k : Nat} {v : Int32} : sZ (mg 4625 I J R) 2239 10 k v = if (v == 0 || v == 1) = true then some (mg 4625 (va_up I 2239 (va_up (I 2239) k v)) J R) else none := e_sZ1 (by decide) rfl
theorem ogR_2239_0 (hR : RA R) : gR (mg 4625 I J R) 2239 10 0 = some 2240 := e_gR (by decide) rfl (hR.get (by decide) (by decide) rfl)
theorem ok_2242 : xk (mg 4625 I J R) 2242 10 = true := me_xk (by decide) rfl
theorem ogI_2242 {k : Nat} : gI (mg 4625 I J R) 2242 10 k = some (I 2242 k) := e_gI (by decide) rfl
theorem osI_2242 {k : Nat} {v : Int32} : sI (mg 4625 I J R) 2242 10 k v = some (mg 4625 (va_up I 2242 (va_up (I 2242) k v)) J R) := e_sI (by decide) rfl
theorem osZ_2242 {k : Nat} {v : Int32} : sZ (mg 4625 I J R) 2242 10 k v = if (v == 0 || v == 1) = true then some (mg 4625 (va_up I 2242 (va_up (I 2242) k v)) J R) else none := e_sZ1 (by decide) rfl
theorem ogR_2242_0 (hR : RA R) : gR (mg 4625 I J R) 2242 10 0 = some 2243 := e_gR (by decide) rfl (hR.get (by decide) (by decide) rfl)
theorem ok_2244 : xk (mg 4625 I J R) 2244 10 = true := me_xk (by decide) rfl
theorem ogI_2244 {k : Nat} : gI (mg 4625 I J R) 2244 10 k = some (I 2244 k) := e_gI (by decide) rfl
theorem osI_2244 {k : Nat} {v : Int32} : sI (mg 4625 I J R) 2244 10 k v = some (mg 4625 (va_up I 2244 (va_up (I 2244) k v)) J R) := e_sI (by decide) rfl
theorem osZ_2244 {k : Nat} {v : Int32} : sZ (mg 4625 I J R) 2244 10 k v = if (v == 0 || v == 1) = true then some (mg 4625 (va_up I 2244 (va_up (I 2244) k v)) J R) else none := e_sZ1 (by decide) rfl
theorem ogR_2244_0 (hR : RA R) : gR (mg 4625 I J R) 2244 10 0 = some 2245 := e_gR (by decide) rfl (hR.get (by decide) (by decide) rfl)
theorem ok_4542 : xk (mg 4625 I J R) 4542 10 = true := me_xk (by decide) rfl
theorem ogI_4542 {k : Nat} : gI (mg 4625 I J R) 4542 10 k = some (I 4542 k) := e_gI (by decide) rfl
theorem osI_4542 {k : Nat} {v : Int32} : sI (mg 4625 I J R) 4542 10 k v = some (mg 4625 (va_up I 4542 (va_up (I 4542) k v)) J R) := e_sI (by decide) rfl
theorem osZ_4542 {k : Nat} {v : Int32} : sZ (mg 4625 I J R) 4542 10 k v = if (v == 0 || v == 1) = true then some (mg 4625 (va_up I 4542 (va_up (I 4542) k v)) J R) else none := e_sZ1 (by decide) rfl
theorem ogR_4542_0 (hR : RA R) : gR (mg 4625 I J R) 4542 10 0 = some 4543 := e_gR (by decide) rfl (hR.get (by decide) (by decide) rfl)
theorem ok_4544 : xk (mg 4625 I J R) 4544 10 = true := me_xk (by decide) rfl
theorem ogI_4544 {k : Nat} : gI (mg 4625 I J R) 4544 10 k = some (I 4544 k) := e_gI (by decide) rfl
theorem osI_4544 {k : Nat} {v : Int32} : sI (mg 4625 I J R) 4544 10 k v = some (mg 4625 (va_up I 4544 (va_up (I 4544) k v)) J R) := e_sI (by decide) rfl
theorem osZ_4544 {k : Nat} {v : Int32} : sZ (mg 4625 I J R) 4544 10 k v = if (v == 0 || v == 1) = true then some (mg 4625 (va_up I 4544 (va_up (I 4544) k v)) J R) else none := e_sZ1 (by decide) rfl
theorem ogR_4544_0 (hR : RA R) : gR (mg 4625 I J R) 4544 10 0 = some 4545 := e_gR (by decide) rfl (hR.get (by decide) (by decide) rfl)
theorem ok_4547 : xk (mg 4625 I J R) 4547 10 = true := me_xk (by decide) rfl
theorem ogI_4547 {k : Nat} : gI (mg 4625 I J R) 4547 10 k = some (I 4547 k) := e_gI (by decide) rfl
theorem osI_4547 {k : Nat} {v : Int32} : sI (mg 4625 I J R) 4547 10 k v = some (mg 4625 (va_up I 4547 (va_up (I 4547) k v)) J R) := e_sI (by decide) rfl
theorem osZ_4547 {k : Nat} {v : Int32} : sZ (mg 4625 I J R) 4547 10 k v = if (v == 0 || v == 1) = true then some (mg 4625 (va_up I 4547 (va_up (I 4547) k v)) J R) else none := e_sZ1 (by decide) rfl
theorem ogR_4547_0 (hR : RA R) : gR (mg 4625 I J R) 4547 10 0 = some 4548 := e_gR (by decide) rfl (hR.get (by decide) (by decide) rfl)
theorem ok_4549 : xk (mg 4625 I J R) 4549 10 = true := me_xk (by decide) rfl
theorem ogI_4549 {k : Nat} : gI (mg 4625 I J R) 4549 10 k = some (I 4549 k) := e_gI (by decide) rfl
theorem osI_4549 {k : Nat} {v : Int32} : sI (mg 4625 I J R) 4549 10 k v = some (mg 4625 (va_up I 4549 (va_up (I 4549) k v)) J R) := e_sI (by decide) rfl
theorem osZ_4549 {k : Nat} {v : Int32} : sZ (mg 4625 I J R) 4549 10 k v = if (v == 0 || v == 1) = true then some (mg 4625 (va_up I 4549 (va_up (I 4549) k v)) J R) else none := e_sZ1 (by decide) rfl
theorem ogR_4549_0 (hR : RA R) : gR (mg 4625 I J R) 4549 10 0 = some 4550 := e_gR (by decide) rfl (hR.get (by decide) (by decide) rfl)
theorem ogL_3 : gL (mg 4625 I J R) 3 14 = some (100 : Int32) := e_gL (by decide) rfl
theorem oaI_3 {i : Int32} : aI (mg 4625 I J R) 3 14 i = if xvi i 100 = true then some (I 3 i.toNatClampNeg) else none := e_aI1 (by decide) rfl
theorem owI_3 {i v : Int32} : wI (mg 4625 I J R) 3 i v = if xvi i 100 = true then some (mg 4625 (va_up I 3 (va_up (I 3) i.toNatClampNeg v)) J R) else none := e_wI1 (by decide) rfl
theorem ogL_5 : gL (mg 4625 I J R) 5 14 = some (100 : Int32) := e_gL (by decide) rfl
theorem oaI_5 {i : Int32} : aI (mg 4625 I J R) 5 14 i = if xvi i 100 = true then some (I 5 i.toNatClampNeg) else none := e_aI1 (by decide) rfl
theorem owI_5 {i v : Int32} : wI (mg 4625 I J R) 5 i v = if xvi i 100 = true then some (mg 4625 (va_up I 5 (va_up (I 5) i.toNatClampNeg v)) J R) else none := e_wI1 (by decide) rfl
theorem ogL_7 : gL (mg 4625 I J R) 7 14 = some (100 : Int32) := e_gL (by decide) rfl
theorem oaI_7 {i : Int32} : aI (mg 4625 I J R) 7 14 i = if xvi i 100 = true then some (I 7 i.toNatClampNeg) else none := e_aI1 (by decide) rfl
theorem owI_7 {i v : Int32} : wI (mg 4625 I J R) 7 i v = if xvi i 100 = true then some (mg 4625 (va_up I 7 (va_up (I 7) i.toNatClampNeg v)) J R) else none := e_wI1 (by decide) rfl
theorem ogL_9 : gL (mg 4625 I J R) 9 14 = some (100 : Int32) := e_gL (by decide) rfl
theorem oaI_9 {i : Int32} : aI (mg 4625 I J R) 9 14 i = if xvi i 100 = true then some (I 9 i.toNatClampNeg) else none := e_aI1 (by decide) rfl
theorem owI_9 {i v : Int32} : wI (mg 4625 I J R) 9 i v = if xvi i 100 = true then some (mg 4625 (va_up I 9 (va_up (I 9) i.toNatClampNeg v)) J R) else none := e_wI1 (by decide) rfl
theorem ogL_10 : gL (mg 4625 I J R) 10 13 = some (60 : Int32) := e_gL (by decide) rfl
theorem oaI_10 {i : Int32} : aI (mg 4625 I J R) 10 13 i = if xvi i 60 = true then some (I 10 i.toNatClampNeg) else none := e_aI1 (by decide) rfl
theorem owC_10 {i v : Int32} : wC (mg 4625 I J R) 10 i v = if xvi i 60 = true then some (mg 4625 (va_up I 10 (va_up (I 10) i.toNatClampNeg (vp_nar .char v))) J R) else none := e_wC1 (by decide) rfl
theorem ogL_12 : gL (mg 4625 I J R) 12 14 = some (128 : Int32) := e_gL (by decide) rfl
theorem oaI_12 {i : Int32} : aI (mg 4625 I J R) 12 14 i = if xvi i 128 = true then some (I 12 i.toNatClampNeg) else none := e_aI1 (by decide) rfl
theorem owI_12 {i v : Int32} : wI (mg 4625 I J R) 12 i v = if xvi i 128 = true then some (mg 4625 (va_up I 12 (va_up (I 12) i.toNatClampNeg v)) J R) else none := e_wI1 (by decide) rfl
theorem ogL_13 : gL (mg 4625 I J R) 13 14 = some (48 : Int32) := e_gL (by decide) rfl
theorem oaI_13 {i : Int32} : aI (mg 4625 I J R) 13 14 i = if xvi i 48 = true then some (I 13 i.toNatClampNeg) else none := e_aI1 (by decide) rfl
theorem owI_13 {i v : Int32} : wI (mg 4625 I J R) 13 i v = if xvi i 48 = true then some (mg 4625 (va_up I 13 (va_up (I 13) i.toNatClampNeg v)) J R) else none := e_wI1 (by decide) rfl
theorem ogL_14 : gL (mg 4625 I J R) 14 14 = some (48 : Int32) := e_gL (by decide) rfl
theorem oaI_14 {i : Int32} : aI (mg 4625 I J R) 14 14 i = if xvi i 48 = true then some (I 14 i.toNatClampNeg) else none := e_aI1 (by decide) rfl
theorem owI_14 {i v : Int32} : wI (mg 4625 I J R) 14 i v = if xvi i 48 = true then some (mg 4625 (va_up I 14 (va_up (I 14) i.toNatClampNeg v)) J R) else none := e_wI1 (by decide) rfl
theorem ogL_15 : gL (mg 4625 I J R) 15 14 = some (48 : Int32) := e_gL (by decide) rfl
theorem oaI_15 {i : Int32} : aI (mg 4625 I J R) 15 14 i = if xvi i 48 = true then some (I 15 i.toNatClampNeg) else none := e_aI1 (by decide) rfl
theorem owI_15 {i v : Int32} : wI (mg 4625 I J R) 15 i v = if xvi i 48 = true then some (mg 4625 (va_up I 15 (va_up (I 15) i.toNatClampNeg v)) J R) else none := e_wI1 (by decide) rfl
theorem ogL_16 : gL (mg 4625 I J R) 16 17 = some (30 : Int32) := e_gL (by decide) rfl
theorem oaR_16 {i : Int32} : aR (mg 4625 I J R) 16 17 i = if xvi i 30 = true then some (R 16 i.toNatClampNeg) else none := e_aR1 (by decide) rfl
theorem ogL_17 : gL (mg 4625 I J R) 17 16 = some (26 : Int32) := e_gL (by decide) rfl
theorem oaR_17 {i : Int32} : aR (mg 4625 I J R) 17 16 i = if xvi i 26 = true then some (R 17 i.toNatClampNeg) else none := e_aR1 (by decide) rfl
theorem ogL_18 : gL (mg 4625 I J R) 18 15 = some (26 : Int32) := e_gL (by decide) rfl
theorem oaI_18 {i : Int32} : aI (mg 4625 I J R) 18 15 i = if xvi i 26 = true then some (I 18 i.toNatClampNeg) else none := e_aI1 (by decide) rfl
theorem owZ_18 {i v : Int32} : wZ (mg 4625 I J R) 18 i v = if (xvi i 26 && (v == 0 || v == 1)) = true then some (mg 4625 (va_up I 18 (va_up (I 18) i.toNatClampNeg v)) J R) else none := e_wZ1 (by decide) rfl
theorem ogL_19 : gL (mg 4625 I J R) 19 18 = some (26 : Int32) := e_gL (by decide) rfl
theorem oaR_19 {i : Int32} : aR (mg 4625 I J R) 19 18 i = if xvi i 26 = true then some (R 19 i.toNatClampNeg) else none := e_aR1 (by decide) rfl
theorem ogL_20 : gL (mg 4625 I J R) 20 14 = some (10 : Int32) := e_gL (by decide) rfl
theorem oaI_20 {i : Int32} : aI (mg 4625 I J R) 20 14 i = if xvi i 10 = true then some (I 20 i.toNatClampNeg) else none := e_aI1 (by decide) rfl
theorem owI_20 {i v : Int32} : wI (mg 4625 I J R) 20 i v = if xvi i 10 = true then some (mg 4625 (va_up I 20 (va_up (I 20) i.toNatClampNeg v)) J R) else none := e_wI1 (by decide) rfl
theorem ogL_21 : gL (mg 4625 I J R) 21 14 = some (10 : Int32) := e_gL (by decide) rfl
theorem oaI_21 {i : Int32} : aI (mg 4625 I J R) 21 14 i = if xvi i 10 = true then some (I 21 i.toNatClampNeg) else none := e_aI1 (by decide) rfl
theorem owI_21 {i v : Int32} : wI (mg 4625 I J R) 21 i v = if xvi i 10 = true then some (mg 4625 (va_up I 21 (va_up (I 21) i.toNatClampNeg v)) J R) else none := e_wI1 (by decide) rfl
theorem ogL_22 : gL (mg 4625 I J R) 22 14 = some (10 : Int32) := e_gL (by decide) rfl
theorem oaI_22 {i : Int32} : aI (mg 4625 I J R) 22 14 i = if xvi i 10 = true then some (I 22 i.toNatClampNeg) else none := e_aI1 (by decide) rfl
theorem owI_22 {i v : Int32} : wI (mg 4625 I J R) 22 i v = if xvi i 10 = true then some (mg 4625 (va_up I 22 (va_up (I 22) i.toNatClampNeg v)) J R) else none := e_wI1 (by decide) rfl
theorem ogL_23 : gL (mg 4625 I J R) 23 14 = some (10 : Int32) := e_gL (by decide) rfl
theorem oaI_23 {i : Int32} : aI (mg 4625 I J R) 23 14 i = if xvi i 10 = true then some (I 23 i.toNatClampNeg) else none := e_aI1 (by decide) rfl
theorem owI_23 {i v : Int32} : wI (mg 4625 I J R) 23 i v = if xvi i 10 = true then some (mg 4625 (va_up I 23 (va_up (I 23) i.toNatClampNeg v)) J R) else none := e_wI1 (by decide) rfl
theorem ogL_24 : gL (mg 4625 I J R) 24 14 = some (10 : Int32) := e_gL (by decide) rfl
theorem oaI_24 {i : Int32} : aI (mg 4625 I J R) 24 14 i = if xvi i 10 = true then some (I 24 i.toNatClampNeg) else none := e_aI1 (by decide) rfl
theorem owI_24 {i v : Int32} : wI (mg 4625 I J R) 24 i v = if xvi i 10 = true then some (mg 4625 (va_up I 24 (va_up (I 24) i.toNatClampNeg v)) J R) else none := e_wI1 (by decide) rfl
theorem ogL_25 : gL (mg 4625 I J R) 25 14 = some (10 : Int32) := e_gL (by decide) rfl
theorem oaI_25 {i : Int32} : aI (mg 4625 I J R) 25 14 i = if xvi i 10 = true then some (I 25 i.toNatClampNeg) else none := e_aI1 (by decide) rfl
theorem owI_25 {i v : Int32} : wI (mg 4625 I J R) 25 i v = if xvi i 10 = true then some (mg 4625 (va_up I 25 (va_up (I 25) i.toNatClampNeg v)) J R) else none := e_wI1 (by decide) rfl
theorem ogL_26 : gL (mg 4625 I J R) 26 14 = some (10 : Int32) := e_gL (by decide) rfl
theorem oaI_26 {i : Int32} : aI (mg 4625 I J R) 26 14 i = if xvi i 10 = true then some (I 26 i.toNatClampNeg) else none := e_aI1 (by decide) rfl
theorem owI_26 {i v : Int32} : wI (mg 4625 I J R) 26 i v = if xvi i 10 = true then some (mg 4625 (va_up I 26 (va_up (I 26) i.toNatClampNeg v)) J R) else none := e_wI1 (by decide) rfl
theorem ogL_27 : gL (mg 4625 I J R) 27 14 = some (10 : Int32) := e_gL (by decide) rfl
theorem oaI_27 {i : Int32} : aI (mg 4625 I J R) 27 14 i = if xvi i 10 = true then some (I 27 i.toNatClampNeg) else none := e_aI1 (by decide) rfl
theorem owI_27 {i v : Int32} : wI (mg 4625 I J R) 27 i v = if xvi i 10 = true then some (mg 4625 (va_up I 27 (va_up (I 27) i.toNatClampNeg v)) J R) else none := e_wI1 (by decide) rfl
theorem ogL_28 : gL (mg 4625 I J R) 28 14 = some (10 : Int32) := e_gL (by decide) rfl
theorem oaI_28 {i : Int32} : aI (mg 4625 I J R) 28 14 i = if xvi i 10 = true then some (I 28 i.toNatClampNeg) else none := e_aI1 (by decide) rfl
theorem owI_28 {i v : Int32} : wI (mg 4625 I J R) 28 i v = if xvi i 10 = true then some (mg 4625 (va_up I 28 (va_up (I 28) i.toNatClampNeg v)) J R) else none := e_wI1 (by decide) rfl
theorem ogL_29 : gL (mg 4625 I J R) 29 14 = some (10 : Int32) := e_gL (by decide) rfl
theorem oaI_29 {i : Int32} : aI (mg 4625 I J R) 29 14 i = if xvi i 10 = true then some (I 29 i.toNatClampNeg) else none := e_aI1 (by decide) rfl
theorem owI_29 {i v : Int32} : wI (mg 4625 I J R) 29 i v = if xvi i 10 = true then some (mg 4625 (va_up I 29 (va_up (I 29) i.toNatClampNeg v)) J R) else none := e_wI1 (by decide) rfl
theorem ogL_30 : gL (mg 4625 I J R) 30 14 = some (10 : Int32) := e_gL (by decide) rfl
theorem oaI_30 {i : Int32} : aI (mg 4625 I J R) 30 14 i = if xvi i 10 = true then some (I 30 i.toNatClampNeg) else none := e_aI1 (by decide) rfl
theorem owI_30 {i v : Int32} : wI (mg 4625 I J R) 30 i v = if xvi i 10 = true then some (mg 4625 (va_up I 30 (va_up (I 30) i.toNatClampNeg v)) J R) else none := e_wI1 (by decide) rfl
theorem ogL_31 : gL (mg 4625 I J R) 31 14 = some (10 : Int32) := e_gL (by decide) rfl
theorem oaI_31 {i : Int32} : aI (mg 4625 I J R) 31 14 i = if xvi i 10 = true then some (I 31 i.toNatClampNeg) else none := e_aI1 (by decide) rfl
theorem owI_31 {i v : Int32} : wI (mg 4625 I J R) 31 i v = if xvi i 10 = true then some (mg 4625 (va_up I 31 (va_up (I 31) i.toNatClampNeg v)) J R) else none := e_wI1 (by decide) rfl
theorem ogL_32 : gL (mg 4625 I J R) 32 14 = some (10 : Int32) := e_gL (by decide) rfl
theorem oaI_32 {i : Int32} : aI (mg 4625 I J R) 32 14 i = if xvi i 10 = true then some (I 32 i.toNatClampNeg) else none := e_aI1 (by decide) rfl
theorem owI_32 {i v : Int32} : wI (mg 4625 I J R) 32 i v = if xvi i 10 = true then some (mg 4625 (va_up I 32 (va_up (I 32) i.toNatClampNeg v)) J R) else none := e_wI1 (by decide) rfl
theorem ogL_33 : gL (mg 4625 I J R) 33 14 = some (10 : Int32) := e_gL (by decide) rfl
theorem oaI_33 {i : Int32} : aI (mg 4625 I J R) 33 14 i = if xvi i 10 = true then some (I 33 i.toNatClampNeg) else none := e_aI1 (by decide) rfl
theorem owI_33 {i v : Int32} : wI (mg 4625 I J R) 33 i v = if xvi i 10 = true then some (mg 4625 (va_up I 33 (va_up (I 33) i.toNatClampNeg v)) J R) else none := e_wI1 (by decide) rfl
theorem ogL_34 : gL (mg 4625 I J R) 34 14 = some (10 : Int32) := e_gL (by decide) rfl
theorem oaI_34 {i : Int32} : aI (mg 4625 I J R) 34 14 i = if xvi i 10 = true then some (I 34 i.toNatClampNeg) else none := e_aI1 (by decide) rfl
theorem owI_34 {i v : Int32} : wI (mg 4625 I J R) 34 i v = if xvi i 10 = true then some (mg 4625 (va_up I 34 (va_up (I 34) i.toNatClampNeg v)) J R) else none := e_wI1 (by decide) rfl
theorem ogL_35 : gL (mg 4625 I J R) 35 14 = some (10 : Int32) := e_gL (by decide) rfl
theorem oaI_35 {i : Int32} : aI (mg 4625 I J R) 35 14 i = if xvi i 10 = true then some (I 35 i.toNatClampNeg) else none := e_aI1 (by decide) rfl
theorem owI_35 {i v : Int32} : wI (mg 4625 I J R) 35 i v = if xvi i 10 = true then some (mg 4625 (va_up I 35 (va_up (I 35) i.toNatClampNeg v)) J R) else none := e_wI1 (by decide) rfl
theorem ogL_36 : gL (mg 4625 I J R) 36 14 = some (10 : Int32) := e_gL (by decide) rfl
theorem oaI_36 {i : Int32} : aI (mg 4625 I J R) 36 14 i = if xvi i 10 = true then some (I 36 i.toNatClampNeg) else none := e_aI1 (by decide) rfl
theorem owI_36 {i v : Int32} : wI (mg 4625 I J R) 36 i v = if xvi i 10 = true then some (mg 4625 (va_up I 36 (va_up (I 36) i.toNatClampNeg v)) J R) else none := e_wI1 (by decide) rfl
theorem ogL_37 : gL (mg 4625 I J R) 37 14 = some (10 : Int32) := e_gL (by decide) rfl
theorem oaI_37 {i : Int32} : aI (mg 4625 I J R) 37 14 i = if xvi i 10 = true then some (I 37 i.toNatClampNeg) else none := e_aI1 (by decide) rfl
theorem owI_37 {i v : Int32} : wI (mg 4625 I J R) 37 i v = if xvi i 10 = true then some (mg 4625 (va_up I 37 (va_up (I 37) i.toNatClampNeg v)) J R) else none := e_wI1 (by decide) rfl
theorem ogL_38 : gL (mg 4625 I J R) 38 14 = some (10 : Int32) := e_gL (by decide) rfl
theorem oaI_38 {i : Int32} : aI (mg 4625 I J R) 38 14 i = if xvi i 10 = true then some (I 38 i.toNatClampNeg) else none := e_aI1 (by decide) rfl
theorem owI_38 {i v : Int32} : wI (mg 4625 I J R) 38 i v = if xvi i 10 = true then some (mg 4625 (va_up I 38 (va_up (I 38) i.toNatClampNeg v)) J R) else none := e_wI1 (by decide) rfl
theorem ogL_39 : gL (mg 4625 I J R) 39 14 = some (10 : Int32) := e_gL (by decide) rfl
theorem oaI_39 {i : Int32} : aI (mg 4625 I J R) 39 14 i = if xvi i 10 = true then some (I 39 i.toNatClampNeg) else none := e_aI1 (by decide) rfl
theorem owI_39 {i v : Int32} : wI (mg 4625 I J R) 39 i v = if xvi i 10 = true then some (mg 4625 (va_up I 39 (va_up (I 39) i.toNatClampNeg v)) J R) else none := e_wI1 (by decide) rfl
theorem ogL_40 : gL (mg 4625 I J R) 40 14 = some (10 : Int32) := e_gL (by decide) rfl
theorem oaI_40 {i : Int32} : aI (mg 4625 I J R) 40 14 i = if xvi i 10 = true then some (I 40 i.toNatClampNeg) else none := e_aI1 (by decide) rfl
theorem owI_40 {i v : Int32} : wI (mg 4625 I J R) 40 i v = if xvi i 10 = true then some (mg 4625 (va_up I 40 (va_up (I 40) i.toNatClampNeg v)) J R) else none := e_wI1 (by decide) rfl
theorem ogL_41 : gL (mg 4625 I J R) 41 14 = some (10 : Int32) := e_gL (by decide) rfl
theorem oaI_41 {i : Int32} : aI (mg 4625 I J R) 41 14 i = if xvi i 10 = true then some (I 41 i.toNatClampNeg) else none := e_aI1 (by decide) rfl
theorem owI_41 {i v : Int32} : wI (mg 4625 I J R) 41 i v = if xvi i 10 = true then some (mg 4625 (va_up I 41 (va_up (I 41) i.toNatClampNeg v)) J R) else none := e_wI1 (by decide) rfl
theorem ogL_42 : gL (mg 4625 I J R) 42 14 = some (10 : Int32) := e_gL (by decide) rfl
theorem oaI_42 {i : Int32} : aI (mg 4625 I J R) 42 14 i = if xvi i 10 = true then some (I 42 i.toNatClampNeg) else none := e_aI1 (by decide) rfl
theorem owI_42 {i v : Int32} : wI (mg 4625 I J R) 42 i v = if xvi i 10 = true then some (mg 4625 (va_up I 42 (va_up (I 42) i.toNatClampNeg v)) J R) else none := e_wI1 (by decide) rfl
theorem ogL_43 : gL (mg 4625 I J R) 43 14 = some (10 : Int32) := e_gL (by decide) rfl
theorem oaI_43 {i : Int32} : aI (mg 4625 I J R) 43 14 i = if xvi i 10 = true then some (I 43 i.toNatClampNeg) else none := e_aI1 (by decide) rfl
theorem owI_43 {i v : Int32} : wI (mg 4625 I J R) 43 i v = if xvi i 10 = true then some (mg 4625 (va_up I 43 (va_up (I 43) i.toNatClampNeg v)) J R) else none := e_wI1 (by decide) rfl
theorem ogL_44 : gL (mg 4625 I J R) 44 14 = some (10 : Int32) := e_gL (by decide) rfl
theorem oaI_44 {i : Int32} : aI (mg 4625 I J R) 44 14 i = if xvi i 10 = true then some (I 44 i.toNatClampNeg) else none := e_aI1 (by decide) rfl
theorem owI_44 {i v : Int32} : wI (mg 4625 I J R) 44 i v = if xvi i 10 = true then some (mg 4625 (va_up I 44 (va_up (I 44) i.toNatClampNeg v)) J R) else none := e_wI1 (by decide) rfl
theorem ogL_45 : gL (mg 4625 I J R) 45 14 = some (10 : Int32) := e_gL (by decide) rfl
theorem oaI_45 {i : Int32} : aI (mg 4625 I J R) 45 14 i = if xvi i 10 = true then some (I 45 i.toNatClampNeg) else none := e_aI1 (by decide) rfl
theorem owI_45 {i v : Int32} : wI (mg 4625 I J R) 45 i v = if xvi i 10 = true then some (mg 4625 (va_up I 45 (va_up (I 45) i.toNatClampNeg v)) J R) else none := e_wI1 (by decide) rfl
theorem ogL_46 : gL (mg 4625 I J R) 46 14 = some (20 : Int32) := e_gL (by decide) rfl
theorem oaI_46 {i : Int32} : aI (mg 4625 I J R) 46 14 i = if xvi i 20 = true then some (I 46 i.toNatClampNeg) else none := e_aI1 (by decide) rfl
theorem owI_46 {i v : Int32} : wI (mg 4625 I J R) 46 i v = if xvi i 20 = true then some (mg 4625 (va_up I 46 (va_up (I 46) i.toNatClampNeg v)) J R) else none := e_wI1 (by decide) rfl
theorem ogL_47 : gL (mg 4625 I J R) 47 14 = some (20 : Int32) := e_gL (by decide) rfl
theorem oaI_47 {i : Int32} : aI (mg 4625 I J R) 47 14 i = if xvi i 20 = true then some (I 47 i.toNatClampNeg) else none := e_aI1 (by decide) rfl
theorem owI_47 {i v : Int32} : wI (mg 4625 I J R) 47 i v = if xvi i 20 = true then some (mg 4625 (va_up I 47 (va_up (I 47) i.toNatClampNeg v)) J R) else none := e_wI1 (by decide) rfl
theorem ogL_48 : gL (mg 4625 I J R) 48 18 = some (20 : Int32) := e_gL (by decide) rfl
theorem oaR_48 {i : Int32} : aR (mg 4625 I J R) 48 18 i = if xvi i 20 = true then some (R 48 i.toNatClampNeg) else none := e_aR1 (by decide) rfl
theorem ogL_49 : gL (mg 4625 I J R) 49 14 = some (10 : Int32) := e_gL (by decide) rfl
theorem oaI_49 {i : Int32} : aI (mg 4625 I J R) 49 14 i = if xvi i 10 = true then some (I 49 i.toNatClampNeg) else none := e_aI1 (by decide) rfl
theorem owI_49 {i v : Int32} : wI (mg 4625 I J R) 49 i v = if xvi i 10 = true then some (mg 4625 (va_up I 49 (va_up (I 49) i.toNatClampNeg v)) J R) else none := e_wI1 (by decide) rfl
theorem ogL_50 : gL (mg 4625 I J R) 50 14 = some (10 : Int32) := e_gL (by decide) rfl
theorem oaI_50 {i : Int32} : aI (mg 4625 I J R) 50 14 i = if xvi i 10 = true then some (I 50 i.toNatClampNeg) else none := e_aI1 (by decide) rfl
theorem owI_50 {i v : Int32} : wI (mg 4625 I J R) 50 i v = if xvi i 10 = true then some (mg 4625 (va_up I 50 (va_up (I 50) i.toNatClampNeg v)) J R) else none := e_wI1 (by decide) rfl
theorem ogL_51 : gL (mg 4625 I J R) 51 14 = some (10 : Int32) := e_gL (by decide) rfl
theorem oaI_51 {i : Int32} : aI (mg 4625 I J R) 51 14 i = if xvi i 10 = true then some (I 51 i.toNatClampNeg) else none := e_aI1 (by decide) rfl
theorem owI_51 {i v : Int32} : wI (mg 4625 I J R) 51 i v = if xvi i 10 = true then some (mg 4625 (va_up I 51 (va_up (I 51) i.toNatClampNeg v)) J R) else none := e_wI1 (by decide) rfl
theorem ogL_52 : gL (mg 4625 I J R) 52 14 = some (10 : Int32) := e_gL (by decide) rfl
theorem oaI_52 {i : Int32} : aI (mg 4625 I J R) 52 14 i = if xvi i 10 = true then some (I 52 i.toNatClampNeg) else none := e_aI1 (by decide) rfl
theorem owI_52 {i v : Int32} : wI (mg 4625 I J R) 52 i v = if xvi i 10 = true then some (mg 4625 (va_up I 52 (va_up (I 52) i.toNatClampNeg v)) J R) else none := e_wI1 (by decide) rfl
theorem ogL_53 : gL (mg 4625 I J R) 53 14 = some (10 : Int32) := e_gL (by decide) rfl
theorem oaI_53 {i : Int32} : aI (mg 4625 I J R) 53 14 i = if xvi i 10 = true then some (I 53 i.toNatClampNeg) else none := e_aI1 (by decide) rfl
theorem owI_53 {i v : Int32} : wI (mg 4625 I J R) 53 i v = if xvi i 10 = true then some (mg 4625 (va_up I 53 (va_up (I 53) i.toNatClampNeg v)) J R) else none := e_wI1 (by decide) rfl
theorem ogL_54 : gL (mg 4625 I J R) 54 14 = some (10 : Int32) := e_gL (by decide) rfl
theorem oaI_54 {i : Int32} : aI (mg 4625 I J R) 54 14 i = if xvi i 10 = true then some (I 54 i.toNatClampNeg) else none := e_aI1 (by decide) rfl
theorem owI_54 {i v : Int32} : wI (mg 4625 I J R) 54 i v = if xvi i 10 = true then some (mg 4625 (va_up I 54 (va_up (I 54) i.toNatClampNeg v)) J R) else none := e_wI1 (by decide) rfl
theorem ogL_55 : gL (mg 4625 I J R) 55 14 = some (10 : Int32) := e_gL (by decide) rfl
theorem oaI_55 {i : Int32} : aI (mg 4625 I J R) 55 14 i = if xvi i 10 = true then some (I 55 i.toNatClampNeg) else none := e_aI1 (by decide) rfl
theorem owI_55 {i v : Int32} : wI (mg 4625 I J R) 55 i v = if xvi i 10 = true then some (mg 4625 (va_up I 55 (va_up (I 55) i.toNatClampNeg v)) J R) else none := e_wI1 (by decide) rfl
theorem ogL_56 : gL (mg 4625 I J R) 56 14 = some (10 : Int32) := e_gL (by decide) rfl
theorem oaI_56 {i : Int32} : aI (mg 4625 I J R) 56 14 i = if xvi i 10 = true then some (I 56 i.toNatClampNeg) else none := e_aI1 (by decide) rfl
theorem owI_56 {i v : Int32} : wI (mg 4625 I J R) 56 i v = if xvi i 10 = true then some (mg 4625 (va_up I 56 (va_up (I 56) i.toNatClampNeg v)) J R) else none := e_wI1 (by decide) rfl
theorem ogL_57 : gL (mg 4625 I J R) 57 14 = some (10 : Int32) := e_gL (by decide) rfl
theorem oaI_57 {i : Int32} : aI (mg 4625 I J R) 57 14 i = if xvi i 10 = true then some (I 57 i.toNatClampNeg) else none := e_aI1 (by decide) rfl
theorem owI_57 {i v : Int32} : wI (mg 4625 I J R) 57 i v = if xvi i 10 = true then some (mg 4625 (va_up I 57 (va_up (I 57) i.toNatClampNeg v)) J R) else none := e_wI1 (by decide) rfl
theorem ogL_58 : gL (mg 4625 I J R) 58 14 = some (10 : Int32) := e_gL (by decide) rfl
theorem oaI_58 {i : Int32} : aI (mg 4625 I J R) 58 14 i = if xvi i 10 = true then some (I 58 i.toNatClampNeg) else none := e_aI1 (by decide) rfl
theorem owI_58 {i v : Int32} : wI (mg 4625 I J R) 58 i v = if xvi i 10 = true then some (mg 4625 (va_up I 58 (va_up (I 58) i.toNatClampNeg v)) J R) else none := e_wI1 (by decide) rfl
theorem ogL_59 : gL (mg 4625 I J R) 59 14 = some (10 : Int32) := e_gL (by decide) rfl
theorem oaI_59 {i : Int32} : aI (mg 4625 I J R) 59 14 i = if xvi i 10 = true then some (I 59 i.toNatClampNeg) else none := e_aI1 (by decide) rfl
theorem owI_59 {i v : Int32} : wI (mg 4625 I J R) 59 i v = if xvi i 10 = true then some (mg 4625 (va_up I 59 (va_up (I 59) i.toNatClampNeg v)) J R) else none := e_wI1 (by decide) rfl
theorem ogL_60 : gL (mg 4625 I J R) 60 14 = some (10 : Int32) := e_gL (by decide) rfl
theorem oaI_60 {i : Int32} : aI (mg 4625 I J R) 60 14 i = if xvi i 10 = true then some (I 60 i.toNatClampNeg) else none := e_aI1 (by decide) rfl
theorem owI_60 {i v : Int32} : wI (mg 4625 I J R) 60 i v = if xvi i 10 = true then some (mg 4625 (va_up I 60 (va_up (I 60) i.toNatClampNeg v)) J R) else none := e_wI1 (by decide) rfl
theorem ogL_61 : gL (mg 4625 I J R) 61 14 = some (10 : Int32) := e_gL (by decide) rfl
theorem oaI_61 {i : Int32} : aI (mg 4625 I J R) 61 14 i = if xvi i 10 = true then some (I 61 i.toNatClampNeg) else none := e_aI1 (by decide) rfl
theorem owI_61 {i v : Int32} : wI (mg 4625 I J R) 61 i v = if xvi i 10 = true then some (mg 4625 (va_up I 61 (va_up (I 61) i.toNatClampNeg v)) J R) else none := e_wI1 (by decide) rfl
theorem ogL_62 : gL (mg 4625 I J R) 62 14 = some (10 : Int32) := e_gL (by decide) rfl
theorem oaI_62 {i : Int32} : aI (mg 4625 I J R) 62 14 i = if xvi i 10 = true then some (I 62 i.toNatClampNeg) else none := e_aI1 (by decide) rfl
theorem owI_62 {i v : Int32} : wI (mg 4625 I J R) 62 i v = if xvi i 10 = true then some (mg 4625 (va_up I 62 (va_up (I 62) i.toNatClampNeg v)) J R) else none := e_wI1 (by decide) rfl
theorem ogL_63 : gL (mg 4625 I J R) 63 14 = some (10 : Int32) := e_gL (by decide) rfl
theorem oaI_63 {i : Int32} : aI (mg 4625 I J R) 63 14 i = if xvi i 10 = true then some (I 63 i.toNatClampNeg) else none := e_aI1 (by decide) rfl
theorem owI_63 {i v : Int32} : wI (mg 4625 I J R) 63 i v = if xvi i 10 = true then some (mg 4625 (va_up I 63 (va_up (I 63) i.toNatClampNeg v)) J R) else none := e_wI1 (by decide) rfl
theorem ogL_64 : gL (mg 4625 I J R) 64 14 = some (10 : Int32) := e_gL (by decide) rfl
theorem oaI_64 {i : Int32} : aI (mg 4625 I J R) 64 14 i = if xvi i 10 = true then some (I 64 i.toNatClampNeg) else none := e_aI1 (by decide) rfl
theorem owI_64 {i v : Int32} : wI (mg 4625 I J R) 64 i v = if xvi i 10 = true then some (mg 4625 (va_up I 64 (va_up (I 64) i.toNatClampNeg v)) J R) else none := e_wI1 (by decide) rfl
theorem ogL_65 : gL (mg 4625 I J R) 65 14 = some (10 : Int32) := e_gL (by decide) rfl
theorem oaI_65 {i : Int32} : aI (mg 4625 I J R) 65 14 i = if xvi i 10 = true then some (I 65 i.toNatClampNeg) else none := e_aI1 (by decide) rfl
theorem owI_65 {i v : Int32} : wI (mg 4625 I J R) 65 i v = if xvi i 10 = true then some (mg 4625 (va_up I 65 (va_up (I 65) i.toNatClampNeg v)) J R) else none := e_wI1 (by decide) rfl
theorem ogL_66 : gL (mg 4625 I J R) 66 14 = some (10 : Int32) := e_gL (by decide) rfl
theorem oaI_66 {i : Int32} : aI (mg 4625 I J R) 66 14 i = if xvi i 10 = true then some (I 66 i.toNatClampNeg) else none := e_aI1 (by decide) rfl
theorem owI_66 {i v : Int32} : wI (mg 4625 I J R) 66 i v = if xvi i 10 = true then some (mg 4625 (va_up I 66 (va_up (I 66) i.toNatClampNeg v)) J R) else none := e_wI1 (by decide) rfl
theorem ogL_67 : gL (mg 4625 I J R) 67 14 = some (10 : Int32) := e_gL (by decide) rfl
theorem oaI_67 {i : Int32} : aI (mg 4625 I J R) 67 14 i = if xvi i 10 = true then some (I 67 i.toNatClampNeg) else none := e_aI1 (by decide) rfl
theorem owI_67 {i v : Int32} : wI (mg 4625 I J R) 67 i v = if xvi i 10 = true then some (mg 4625 (va_up I 67 (va_up (I 67) i.toNatClampNeg v)) J R) else none := e_wI1 (by decide) rfl
theorem ogL_68 : gL (mg 4625 I J R) 68 14 = some (10 : Int32) := e_gL (by decide) rfl
theorem oaI_68 {i : Int32} : aI (mg 4625 I J R) 68 14 i = if xvi i 10 = true then some (I 68 i.toNatClampNeg) else none := e_aI1 (by decide) rfl
theorem owI_68 {i v : Int32} : wI (mg 4625 I J R) 68 i v = if xvi i 10 = true then some (mg 4625 (va_up I 68 (va_up (I 68) i.toNatClampNeg v)) J R) else none := e_wI1 (by decide) rfl
theorem ogL_69 : gL (mg 4625 I J R) 69 16 = some (20 : Int32) := e_gL (by decide) rfl
theorem oaR_69 {i : Int32} : aR (mg 4625 I J R) 69 16 i = if xvi i 20 = true then some (R 69 i.toNatClampNeg) else none := e_aR1 (by decide) rfl
theorem ogL_541 : gL (mg 4625 I J R) 541 14 = some (300 : Int32) := e_gL (by decide) rfl
theorem oaI_541 {i : Int32} : aI (mg 4625 I J R) 541 14 i = if xvi i 300 = true then some (I 541 i.toNatClampNeg) else none := e_aI1 (by decide) rfl
theorem owI_541 {i v : Int32} : wI (mg 4625 I J R) 541 i v = if xvi i 300 = true then some (mg 4625 (va_up I 541 (va_up (I 541) i.toNatClampNeg v)) J R) else none := e_wI1 (by decide) rfl
theorem ogL_542 : gL (mg 4625 I J R) 542 14 = some (300 : Int32) := e_gL (by decide) rfl
theorem oaI_542 {i : Int32} : aI (mg 4625 I J R) 542 14 i = if xvi i 300 = true then some (I 542 i.toNatClampNeg) else none := e_aI1 (by decide) rfl
theorem owI_542 {i v : Int32} : wI (mg 4625 I J R) 542 i v = if xvi i 300 = true then some (mg 4625 (va_up I 542 (va_up (I 542) i.toNatClampNeg v)) J R) else none := e_wI1 (by decide) rfl
theorem ogL_543 : gL (mg 4625 I J R) 543 14 = some (300 : Int32) := e_gL (by decide) rfl
theorem oaI_543 {i : Int32} : aI (mg 4625 I J R) 543 14 i = if xvi i 300 = true then some (I 543 i.toNatClampNeg) else none := e_aI1 (by decide) rfl
theorem owI_543 {i v : Int32} : wI (mg 4625 I J R) 543 i v = if xvi i 300 = true then some (mg 4625 (va_up I 543 (va_up (I 543) i.toNatClampNeg v)) J R) else none := e_wI1 (by decide) rfl
theorem ogL_544 : gL (mg 4625 I J R) 544 15 = some (300 : Int32) := e_gL (by decide) rfl
theorem oaI_544 {i : Int32} : aI (mg 4625 I J R) 544 15 i = if xvi i 300 = true then some (I 544 i.toNatClampNeg) else none := e_aI1 (by decide) rfl
theorem owZ_544 {i v : Int32} : wZ (mg 4625 I J R) 544 i v = if (xvi i 300 && (v == 0 || v == 1)) = true then some (mg 4625 (va_up I 544 (va_up (I 544) i.toNatClampNeg v)) J R) else none := e_wZ1 (by decide) rfl
theorem ogL_545 : gL (mg 4625 I J R) 545 14 = some (300 : Int32) := e_gL (by decide) rfl
theorem oaI_545 {i : Int32} : aI (mg 4625 I J R) 545 14 i = if xvi i 300 = true then some (I 545 i.toNatClampNeg) else none := e_aI1 (by decide) rfl
theorem owI_545 {i v : Int32} : wI (mg 4625 I J R) 545 i v = if xvi i 300 = true then some (mg 4625 (va_up I 545 (va_up (I 545) i.toNatClampNeg v)) J R) else none := e_wI1 (by decide) rfl
theorem ogL_546 : gL (mg 4625 I J R) 546 14 = some (300 : Int32) := e_gL (by decide) rfl
theorem oaI_546 {i : Int32} : aI (mg 4625 I J R) 546 14 i = if xvi i 300 = true then some (I 546 i.toNatClampNeg) else none := e_aI1 (by decide) rfl
theorem owI_546 {i v : Int32} : wI (mg 4625 I J R) 546 i v = if xvi i 300 = true then some (mg 4625 (va_up I 546 (va_up (I 546) i.toNatClampNeg v)) J R) else none := e_wI1 (by decide) rfl
theorem ogL_547 : gL (mg 4625 I J R) 547 14 = some (300 : Int32) := e_gL (by decide) rfl
theorem oaI_547 {i : Int32} : aI (mg 4625 I J R) 547 14 i = if xvi i 300 = true then some (I 547 i.toNatClampNeg) else none := e_aI1 (by decide) rfl
theorem owI_547 {i v : Int32} : wI (mg 4625 I J R) 547 i v = if xvi i 300 = true then some (mg 4625 (va_up I 547 (va_up (I 547) i.toNatClampNeg v)) J R) else none := e_wI1 (by decide) rfl
theorem ogL_548 : gL (mg 4625 I J R) 548 14 = some (300 : Int32) := e_gL (by decide) rfl
theorem oaI_548 {i : Int32} : aI (mg 4625 I J R) 548 14 i = if xvi i 300 = true then some (I 548 i.toNatClampNeg) else none := e_aI1 (by decide) rfl
theorem owI_548 {i v : Int32} : wI (mg 4625 I J R) 548 i v = if xvi i 300 = true then some (mg 4625 (va_up I 548 (va_up (I 548) i.toNatClampNeg v)) J R) else none := e_wI1 (by decide) rfl
theorem ogL_549 : gL (mg 4625 I J R) 549 14 = some (300 : Int32) := e_gL (by decide) rfl
theorem oaI_549 {i : Int32} : aI (mg 4625 I J R) 549 14 i = if xvi i 300 = true then some (I 549 i.toNatClampNeg) else none := e_aI1 (by decide) rfl
theorem owI_549 {i v : Int32} : wI (mg 4625 I J R) 549 i v = if xvi i 300 = true then some (mg 4625 (va_up I 549 (va_up (I 549) i.toNatClampNeg v)) J R) else none := e_wI1 (by decide) rfl
theorem ogL_550 : gL (mg 4625 I J R) 550 14 = some (300 : Int32) := e_gL (by decide) rfl
theorem oaI_550 {i : Int32} : aI (mg 4625 I J R) 550 14 i = if xvi i 300 = true then some (I 550 i.toNatClampNeg) else none := e_aI1 (by decide) rfl
theorem owI_550 {i v : Int32} : wI (mg 4625 I J R) 550 i v = if xvi i 300 = true then some (mg 4625 (va_up I 550 (va_up (I 550) i.toNatClampNeg v)) J R) else none := e_wI1 (by decide) rfl
theorem ogL_552 : gL (mg 4625 I J R) 552 14 = some (80 : Int32) := e_gL (by decide) rfl
theorem oaI_552 {i : Int32} : aI (mg 4625 I J R) 552 14 i = if xvi i 80 = true then some (I 552 i.toNatClampNeg) else none := e_aI1 (by decide) rfl
theorem owI_552 {i v : Int32} : wI (mg 4625 I J R) 552 i v = if xvi i 80 = true then some (mg 4625 (va_up I 552 (va_up (I 552) i.toNatClampNeg v)) J R) else none := e_wI1 (by decide) rfl
theorem ogL_553 : gL (mg 4625 I J R) 553 14 = some (80 : Int32) := e_gL (by decide) rfl
theorem oaI_553 {i : Int32} : aI (mg 4625 I J R) 553 14 i = if xvi i 80 = true then some (I 553 i.toNatClampNeg) else none := e_aI1 (by decide) rfl
theorem owI_553 {i v : Int32} : wI (mg 4625 I J R) 553 i v = if xvi i 80 = true then some (mg 4625 (va_up I 553 (va_up (I 553) i.toNatClampNeg v)) J R) else none := e_wI1 (by decide) rfl
theorem ogL_554 : gL (mg 4625 I J R) 554 14 = some (80 : Int32) := e_gL (by decide) rfl
theorem oaI_554 {i : Int32} : aI (mg 4625 I J R) 554 14 i = if xvi i 80 = true then some (I 554 i.toNatClampNeg) else none := e_aI1 (by decide) rfl
theorem owI_554 {i v : Int32} : wI (mg 4625 I J R) 554 i v = if xvi i 80 = true then some (mg 4625 (va_up I 554 (va_up (I 554) i.toNatClampNeg v)) J R) else none := e_wI1 (by decide) rfl
theorem ogL_555 : gL (mg 4625 I J R) 555 14 = some (80 : Int32) := e_gL (by decide) rfl
theorem oaI_555 {i : Int32} : aI (mg 4625 I J R) 555 14 i = if xvi i 80 = true then some (I 555 i.toNatClampNeg) else none := e_aI1 (by decide) rfl
theorem owI_555 {i v : Int32} : wI (mg 4625 I J R) 555 i v = if xvi i 80 = true then some (mg 4625 (va_up I 555 (va_up (I 555) i.toNatClampNeg v)) J R) else none := e_wI1 (by decide) rfl
theorem ogL_556 : gL (mg 4625 I J R) 556 14 = some (80 : Int32) := e_gL (by decide) rfl
theorem oaI_556 {i : Int32} : aI (mg 4625 I J R) 556 14 i = if xvi i 80 = true then some (I 556 i.toNatClampNeg) else none := e_aI1 (by decide) rfl
theorem owI_556 {i v : Int32} : wI (mg 4625 I J R) 556 i v = if xvi i 80 = true then some (mg 4625 (va_up I 556 (va_up (I 556) i.toNatClampNeg v)) J R) else none := e_wI1 (by decide) rfl
theorem ogL_557 : gL (mg 4625 I J R) 557 14 = some (80 : Int32) := e_gL (by decide) rfl
theorem oaI_557 {i : Int32} : aI (mg 4625 I J R) 557 14 i = if xvi i 80 = true then some (I 557 i.toNatClampNeg) else none := e_aI1 (by decide) rfl
theorem owI_557 {i v : Int32} : wI (mg 4625 I J R) 557 i v = if xvi i 80 = true then some (mg 4625 (va_up I 557 (va_up (I 557) i.toNatClampNeg v)) J R) else none := e_wI1 (by decide) rfl
theorem ogL_558 : gL (mg 4625 I J R) 558 14 = some (80 : Int32) := e_gL (by decide) rfl
theorem oaI_558 {i : Int32} : aI (mg 4625 I J R) 558 14 i = if xvi i 80 = true then some (I 558 i.toNatClampNeg) else none := e_aI1 (by decide) rfl
theorem owI_558 {i v : Int32} : wI (mg 4625 I J R) 558 i v = if xvi i 80 = true then some (mg 4625 (va_up I 558 (va_up (I 558) i.toNatClampNeg v)) J R) else none := e_wI1 (by decide) rfl
theorem ogL_561 : gL (mg 4625 I J R) 561 14 = some (7 : Int32) := e_gL (by decide) rfl
theorem oaI_561 {i : Int32} : aI (mg 4625 I J R) 561 14 i = if xvi i 7 = true then some (I 561 i.toNatClampNeg) else none := e_aI1 (by decide) rfl
theorem owI_561 {i v : Int32} : wI (mg 4625 I J R) 561 i v = if xvi i 7 = true then some (mg 4625 (va_up I 561 (va_up (I 561) i.toNatClampNeg v)) J R) else none := e_wI1 (by decide) rfl
theorem ogL_562 : gL (mg 4625 I J R) 562 13 = some (1000 : Int32) := e_gL (by decide) rfl
theorem oaI_562 {i : Int32} : aI (mg 4625 I J R) 562 13 i = if xvi i 1000 = true then some (I 562 i.toNatClampNeg) else none := e_aI1 (by decide) rfl
theorem owC_562 {i v : Int32} : wC (mg 4625 I J R) 562 i v = if xvi i 1000 = true then some (mg 4625 (va_up I 562 (va_up (I 562) i.toNatClampNeg (vp_nar .char v))) J R) else none := e_wC1 (by decide) rfl
theorem ogL_565 : gL (mg 4625 I J R) 565 14 = some (7 : Int32) := e_gL (by decide) rfl
theorem oaI_565 {i : Int32} : aI (mg 4625 I J R) 565 14 i = if xvi i 7 = true then some (I 565 i.toNatClampNeg) else none := e_aI1 (by decide) rfl
theorem owI_565 {i v : Int32} : wI (mg 4625 I J R) 565 i v = if xvi i 7 = true then some (mg 4625 (va_up I 565 (va_up (I 565) i.toNatClampNeg v)) J R) else none := e_wI1 (by decide) rfl
theorem ogL_566 : gL (mg 4625 I J R) 566 13 = some (1000 : Int32) := e_gL (by decide) rfl
theorem oaI_566 {i : Int32} : aI (mg 4625 I J R) 566 13 i = if xvi i 1000 = true then some (I 566 i.toNatClampNeg) else none := e_aI1 (by decide) rfl
theorem owC_566 {i v : Int32} : wC (mg 4625 I J R) 566 i v = if xvi i 1000 = true then some (mg 4625 (va_up I 566 (va_up (I 566) i.toNatClampNeg (vp_nar .char v))) J R) else none := e_wC1 (by decide) rfl
theorem ogL_568 : gL (mg 4625 I J R) 568 16 = some (240 : Int32) := e_gL (by decide) rfl
theorem oaR_568 {i : Int32} : aR (mg 4625 I J R) 568 16 i = if xvi i 240 = true then some (R 568 i.toNatClampNeg) else none := e_aR1 (by decide) rfl
theorem ogL_571 : gL (mg 4625 I J R) 571 14 = some (100 : Int32) := e_gL (by decide) rfl
theorem oaI_571 {i : Int32} : aI (mg 4625 I J R) 571 14 i = if xvi i 100 = true then some (I 571 i.toNatClampNeg) else none := e_aI1 (by decide) rfl
theorem owI_571 {i v : Int32} : wI (mg 4625 I J R) 571 i v = if xvi i 100 = true then some (mg 4625 (va_up I 571 (va_up (I 571) i.toNatClampNeg v)) J R) else none := e_wI1 (by decide) rfl
theorem ogL_573 : gL (mg 4625 I J R) 573 14 = some (100 : Int32) := e_gL (by decide) rfl
theorem oaI_573 {i : Int32} : aI (mg 4625 I J R) 573 14 i = if xvi i 100 = true then some (I 573 i.toNatClampNeg) else none := e_aI1 (by decide) rfl
theorem owI_573 {i v : Int32} : wI (mg 4625 I J R) 573 i v = if xvi i 100 = true then some (mg 4625 (va_up I 573 (va_up (I 573) i.toNatClampNeg v)) J R) else none := e_wI1 (by decide) rfl
theorem ogL_574 : gL (mg 4625 I J R) 574 14 = some (480 : Int32) := e_gL (by decide) rfl
theorem oaI_574 {i : Int32} : aI (mg 4625 I J R) 574 14 i = if xvi i 480 = true then some (I 574 i.toNatClampNeg) else none := e_aI1 (by decide) rfl
theorem owI_574 {i v : Int32} : wI (mg 4625 I J R) 574 i v = if xvi i 480 = true then some (mg 4625 (va_up I 574 (va_up (I 574) i.toNatClampNeg v)) J R) else none := e_wI1 (by decide) rfl
theorem ogL_575 : gL (mg 4625 I J R) 575 17 = some (480 : Int32) := e_gL (by decide) rfl
theorem oaR_575 {i : Int32} : aR (mg 4625 I J R) 575 17 i = if xvi i 480 = true then some (R 575 i.toNatClampNeg) else none := e_aR1 (by decide) rfl
theorem ogL_576 : gL (mg 4625 I J R) 576 14 = some (480 : Int32) := e_gL (by decide) rfl
theorem oaI_576 {i : Int32} : aI (mg 4625 I J R) 576 14 i = if xvi i 480 = true then some (I 576 i.toNatClampNeg) else none := e_aI1 (by decide) rfl
theorem owI_576 {i v : Int32} : wI (mg 4625 I J R) 576 i v = if xvi i 480 = true then some (mg 4625 (va_up I 576 (va_up (I 576) i.toNatClampNeg v)) J R) else none := e_wI1 (by decide) rfl
theorem ogL_577 : gL (mg 4625 I J R) 577 14 = some (480 : Int32) := e_gL (by decide) rfl
theorem oaI_577 {i : Int32} : aI (mg 4625 I J R) 577 14 i = if xvi i 480 = true then some (I 577 i.toNatClampNeg) else none := e_aI1 (by decide) rfl
theorem owI_577 {i v : Int32} : wI (mg 4625 I J R) 577 i v = if xvi i 480 = true then some (mg 4625 (va_up I 577 (va_up (I 577) i.toNatClampNeg v)) J R) else none := e_wI1 (by decide) rfl
theorem ogL_578 : gL (mg 4625 I J R) 578 14 = some (480 : Int32) := e_gL (by decide) rfl
theorem oaI_578 {i : Int32} : aI (mg 4625 I J R) 578 14 i = if xvi i 480 = true then some (I 578 i.toNatClampNeg) else none := e_aI1 (by decide) rfl
theorem owI_578 {i v : Int32} : wI (mg 4625 I J R) 578 i v = if xvi i 480 = true then some (mg 4625 (va_up I 578 (va_up (I 578) i.toNatClampNeg v)) J R) else none := e_wI1 (by decide) rfl
theorem ogL_579 : gL (mg 4625 I J R) 579 14 = some (480 : Int32) := e_gL (by decide) rfl
theorem oaI_579 {i : Int32} : aI (mg 4625 I J R) 579 14 i = if xvi i 480 = true then some (I 579 i.toNatClampNeg) else none := e_aI1 (by decide) rfl
theorem owI_579 {i v : Int32} : wI (mg 4625 I J R) 579 i v = if xvi i 480 = true then some (mg 4625 (va_up I 579 (va_up (I 579) i.toNatClampNeg v)) J R) else none := e_wI1 (by decide) rfl
theorem ogL_580 : gL (mg 4625 I J R) 580 14 = some (240 : Int32) := e_gL (by decide) rfl
theorem oaI_580 {i : Int32} : aI (mg 4625 I J R) 580 14 i = if xvi i 240 = true then some (I 580 i.toNatClampNeg) else none := e_aI1 (by decide) rfl
theorem owI_580 {i v : Int32} : wI (mg 4625 I J R) 580 i v = if xvi i 240 = true then some (mg 4625 (va_up I 580 (va_up (I 580) i.toNatClampNeg v)) J R) else none := e_wI1 (by decide) rfl
theorem ogL_581 : gL (mg 4625 I J R) 581 14 = some (240 : Int32) := e_gL (by decide) rfl
theorem oaI_581 {i : Int32} : aI (mg 4625 I J R) 581 14 i = if xvi i 240 = true then some (I 581 i.toNatClampNeg) else none := e_aI1 (by decide) rfl
theorem owI_581 {i v : Int32} : wI (mg 4625 I J R) 581 i v = if xvi i 240 = true then some (mg 4625 (va_up I 581 (va_up (I 581) i.toNatClampNeg v)) J R) else none := e_wI1 (by decide) rfl
theorem ogL_582 : gL (mg 4625 I J R) 582 14 = some (240 : Int32) := e_gL (by decide) rfl
theorem oaI_582 {i : Int32} : aI (mg 4625 I J R) 582 14 i = if xvi i 240 = true then some (I 582 i.toNatClampNeg) else none := e_aI1 (by decide) rfl
theorem owI_582 {i v : Int32} : wI (mg 4625 I J R) 582 i v = if xvi i 240 = true then some (mg 4625 (va_up I 582 (va_up (I 582) i.toNatClampNeg v)) J R) else none := e_wI1 (by decide) rfl
theorem ogL_583 : gL (mg 4625 I J R) 583 14 = some (240 : Int32) := e_gL (by decide) rfl
theorem oaI_583 {i : Int32} : aI (mg 4625 I J R) 583 14 i = if xvi i 240 = true then some (I 583 i.toNatClampNeg) else none := e_aI1 (by decide) rfl
theorem owI_583 {i v : Int32} : wI (mg 4625 I J R) 583 i v = if xvi i 240 = true then some (mg 4625 (va_up I 583 (va_up (I 583) i.toNatClampNeg v)) J R) else none := e_wI1 (by decide) rfl
theorem ogL_1785 : gL (mg 4625 I J R) 1785 16 = some (80 : Int32) := e_gL (by decide) rfl
theorem oaR_1785 {i : Int32} : aR (mg 4625 I J R) 1785 16 i = if xvi i 80 = true then some (R 1785 i.toNatClampNeg) else none := e_aR1 (by decide) rfl
theorem ogL_1788 : gL (mg 4625 I J R) 1788 14 = some (7 : Int32) := e_gL (by decide) rfl
theorem oaI_1788 {i : Int32} : aI (mg 4625 I J R) 1788 14 i = if xvi i 7 = true then some (I 1788 i.toNatClampNeg) else none := e_aI1 (by decide) rfl
theorem owI_1788 {i v : Int32} : wI (mg 4625 I J R) 1788 i v = if xvi i 7 = true then some (mg 4625 (va_up I 1788 (va_up (I 1788) i.toNatClampNeg v)) J R) else none := e_wI1 (by decide) rfl
theorem ogL_1790 : gL (mg 4625 I J R) 1790 14 = some (7 : Int32) := e_gL (by decide) rfl
theorem oaI_1790 {i : Int32} : aI (mg 4625 I J R) 1790 14 i = if xvi i 7 = true then some (I 1790 i.toNatClampNeg) else none := e_aI1 (by decide) rfl
theorem owI_1790 {i v : Int32} : wI (mg 4625 I J R) 1790 i v = if xvi i 7 = true then some (mg 4625 (va_up I 1790 (va_up (I 1790) i.toNatClampNeg v)) J R) else none := e_wI1 (by decide) rfl
theorem ogL_1793 : gL (mg 4625 I J R) 1793 14 = some (7 : Int32) := e_gL (by decide) rfl
theorem oaI_1793 {i : Int32} : aI (mg 4625 I J R) 1793 14 i = if xvi i 7 = true then some (I 1793 i.toNatClampNeg) else none := e_aI1 (by decide) rfl
theorem owI_1793 {i v : Int32} : wI (mg 4625 I J R) 1793 i v = if xvi i 7 = true then some (mg 4625 (va_up I 1793 (va_up (I 1793) i.toNatClampNeg v)) J R) else none := e_wI1 (by decide) rfl
theorem ogL_1795 : gL (mg 4625 I J R) 1795 14 = some (7 : Int32) := e_gL (by decide) rfl
theorem oaI_1795 {i : Int32} : aI (mg 4625 I J R) 1795 14 i = if xvi i 7 = true then some (I 1795 i.toNatClampNeg) else none := e_aI1 (by decide) rfl
theorem owI_1795 {i v : Int32} : wI (mg 4625 I J R) 1795 i v = if xvi i 7 = true then some (mg 4625 (va_up I 1795 (va_up (I 1795) i.toNatClampNeg v)) J R) else none := e_wI1 (by decide) rfl
theorem ogL_1798 : gL (mg 4625 I J R) 1798 14 = some (100 : Int32) := e_gL (by decide) rfl
theorem oaI_1798 {i : Int32} : aI (mg 4625 I J R) 1798 14 i = if xvi i 100 = true then some (I 1798 i.toNatClampNeg) else none := e_aI1 (by decide) rfl
theorem owI_1798 {i v : Int32} : wI (mg 4625 I J R) 1798 i v = if xvi i 100 = true then some (mg 4625 (va_up I 1798 (va_up (I 1798) i.toNatClampNeg v)) J R) else none := e_wI1 (by decide) rfl
theorem ogL_1800 : gL (mg 4625 I J R) 1800 14 = some (100 : Int32) := e_gL (by decide) rfl
theorem oaI_1800 {i : Int32} : aI (mg 4625 I J R) 1800 14 i = if xvi i 100 = true then some (I 1800 i.toNatClampNeg) else none := e_aI1 (by decide) rfl
theorem owI_1800 {i v : Int32} : wI (mg 4625 I J R) 1800 i v = if xvi i 100 = true then some (mg 4625 (va_up I 1800 (va_up (I 1800) i.toNatClampNeg v)) J R) else none := e_wI1 (by decide) rfl
theorem ogL_1803 : gL (mg 4625 I J R) 1803 14 = some (100 : Int32) := e_gL (by decide) rfl
theorem oaI_1803 {i : Int32} : aI (mg 4625 I J R) 1803 14 i = if xvi i 100 = true then some (I 1803 i.toNatClampNeg) else none := e_aI1 (by decide) rfl
theorem owI_1803 {i v : Int32} : wI (mg 4625 I J R) 1803 i v = if xvi i 100 = true then some (mg 4625 (va_up I 1803 (va_up (I 1803) i.toNatClampNeg v)) J R) else none := e_wI1 (by decide) rfl
theorem ogL_1805 : gL (mg 4625 I J R) 1805 14 = some (100 : Int32) := e_gL (by decide) rfl
theorem oaI_1805 {i : Int32} : aI (mg 4625 I J R) 1805 14 i = if xvi i 100 = true then some (I 1805 i.toNatClampNeg) else none := e_aI1 (by decide) rfl
theorem owI_1805 {i v : Int32} : wI (mg 4625 I J R) 1805 i v = if xvi i 100 = true then some (mg 4625 (va_up I 1805 (va_up (I 1805) i.toNatClampNeg v)) J R) else none := e_wI1 (by decide) rfl
theorem ogL_2208 : gL (mg 4625 I J R) 2208 14 = some (80 : Int32) := e_gL (by decide) rfl
theorem oaI_2208 {i : Int32} : aI (mg 4625 I J R) 2208 14 i = if xvi i 80 = true then some (I 2208 i.toNatClampNeg) else none := e_aI1 (by decide) rfl
theorem owI_2208 {i v : Int32} : wI (mg 4625 I J R) 2208 i v = if xvi i 80 = true then some (mg 4625 (va_up I 2208 (va_up (I 2208) i.toNatClampNeg v)) J R) else none := e_wI1 (by decide) rfl
theorem ogL_2209 : gL (mg 4625 I J R) 2209 14 = some (80 : Int32) := e_gL (by decide) rfl
theorem oaI_2209 {i : Int32} : aI (mg 4625 I J R) 2209 14 i = if xvi i 80 = true then some (I 2209 i.toNatClampNeg) else none := e_aI1 (by decide) rfl
theorem owI_2209 {i v : Int32} : wI (mg 4625 I J R) 2209 i v = if xvi i 80 = true then some (mg 4625 (va_up I 2209 (va_up (I 2209) i.toNatClampNeg v)) J R) else none := e_wI1 (by decide) rfl
theorem ogL_2210 : gL (mg 4625 I J R) 2210 14 = some (80 : Int32) := e_gL (by decide) rfl
theorem oaI_2210 {i : Int32} : aI (mg 4625 I J R) 2210 14 i = if xvi i 80 = true then some (I 2210 i.toNatClampNeg) else none := e_aI1 (by decide) rfl
theorem owI_2210 {i v : Int32} : wI (mg 4625 I J R) 2210 i v = if xvi i 80 = true then some (mg 4625 (va_up I 2210 (va_up (I 2210) i.toNatClampNeg v)) J R) else none := e_wI1 (by decide) rfl
theorem ogL_2211 : gL (mg 4625 I J R) 2211 14 = some (80 : Int32) := e_gL (by decide) rfl
theorem oaI_2211 {i : Int32} : aI (mg 4625 I J R) 2211 14 i = if xvi i 80 = true then some (I 2211 i.toNatClampNeg) else none := e_aI1 (by decide) rfl
theorem owI_2211 {i v : Int32} : wI (mg 4625 I J R) 2211 i v = if xvi i 80 = true then some (mg 4625 (va_up I 2211 (va_up (I 2211) i.toNatClampNeg v)) J R) else none := e_wI1 (by decide) rfl
theorem ogL_2212 : gL (mg 4625 I J R) 2212 14 = some (80 : Int32) := e_gL (by decide) rfl
theorem oaI_2212 {i : Int32} : aI (mg 4625 I J R) 2212 14 i = if xvi i 80 = true then some (I 2212 i.toNatClampNeg) else none := e_aI1 (by decide) rfl
theorem owI_2212 {i v : Int32} : wI (mg 4625 I J R) 2212 i v = if xvi i 80 = true then some (mg 4625 (va_up I 2212 (va_up (I 2212) i.toNatClampNeg v)) J R) else none := e_wI1 (by decide) rfl
theorem ogL_2213 : gL (mg 4625 I J R) 2213 14 = some (80 : Int32) := e_gL (by decide) rfl
theorem oaI_2213 {i : Int32} : aI (mg 4625 I J R) 2213 14 i = if xvi i 80 = true then some (I 2213 i.toNatClampNeg) else none := e_aI1 (by decide) rfl
theorem owI_2213 {i v : Int32} : wI (mg 4625 I J R) 2213 i v = if xvi i 80 = true then some (mg 4625 (va_up I 2213 (va_up (I 2213) i.toNatClampNeg v)) J R) else none := e_wI1 (by decide) rfl
theorem ogL_2214 : gL (mg 4625 I J R) 2214 14 = some (80 : Int32) := e_gL (by decide) rfl
theorem oaI_2214 {i : Int32} : aI (mg 4625 I J R) 2214 14 i = if xvi i 80 = true then some (I 2214 i.toNatClampNeg) else none := e_aI1 (by decide) rfl
theorem owI_2214 {i v : Int32} : wI (mg 4625 I J R) 2214 i v = if xvi i 80 = true then some (mg 4625 (va_up I 2214 (va_up (I 2214) i.toNatClampNeg v)) J R) else none := e_wI1 (by decide) rfl
theorem ogL_2216 : gL (mg 4625 I J R) 2216 16 = some (432 : Int32) := e_gL (by decide) rfl
theorem oaR_2216 {i : Int32} : aR (mg 4625 I J R) 2216 16 i = if xvi i 432 = true then some (R 2216 i.toNatClampNeg) else none := e_aR1 (by decide) rfl
theorem ogL_2217 : gL (mg 4625 I J R) 2217 14 = some (48 : Int32) := e_gL (by decide) rfl
theorem oaI_2217 {i : Int32} : aI (mg 4625 I J R) 2217 14 i = if xvi i 48 = true then some (I 2217 i.toNatClampNeg) else none := e_aI1 (by decide) rfl
theorem owI_2217 {i v : Int32} : wI (mg 4625 I J R) 2217 i v = if xvi i 48 = true then some (mg 4625 (va_up I 2217 (va_up (I 2217) i.toNatClampNeg v)) J R) else none := e_wI1 (by decide) rfl
theorem ogL_2218 : gL (mg 4625 I J R) 2218 16 = some (9 : Int32) := e_gL (by decide) rfl
theorem oaR_2218 {i : Int32} : aR (mg 4625 I J R) 2218 16 i = if xvi i 9 = true then some (R 2218 i.toNatClampNeg) else none := e_aR1 (by decide) rfl
theorem ogL_2219 : gL (mg 4625 I J R) 2219 16 = some (9 : Int32) := e_gL (by decide) rfl
theorem oaR_2219 {i : Int32} : aR (mg 4625 I J R) 2219 16 i = if xvi i 9 = true then some (R 2219 i.toNatClampNeg) else none := e_aR1 (by decide) rfl
theorem ogL_2222 : gL (mg 4625 I J R) 2222 14 = some (100 : Int32) := e_gL (by decide) rfl
theorem oaI_2222 {i : Int32} : aI (mg 4625 I J R) 2222 14 i = if xvi i 100 = true then some (I 2222 i.toNatClampNeg) else none := e_aI1 (by decide) rfl
theorem owI_2222 {i v : Int32} : wI (mg 4625 I J R) 2222 i v = if xvi i 100 = true then some (mg 4625 (va_up I 2222 (va_up (I 2222) i.toNatClampNeg v)) J R) else none := e_wI1 (by decide) rfl
theorem ogL_2224 : gL (mg 4625 I J R) 2224 14 = some (100 : Int32) := e_gL (by decide) rfl
theorem oaI_2224 {i : Int32} : aI (mg 4625 I J R) 2224 14 i = if xvi i 100 = true then some (I 2224 i.toNatClampNeg) else none := e_aI1 (by decide) rfl
theorem owI_2224 {i v : Int32} : wI (mg 4625 I J R) 2224 i v = if xvi i 100 = true then some (mg 4625 (va_up I 2224 (va_up (I 2224) i.toNatClampNeg v)) J R) else none := e_wI1 (by decide) rfl
theorem ogL_2227 : gL (mg 4625 I J R) 2227 14 = some (100 : Int32) := e_gL (by decide) rfl
theorem oaI_2227 {i : Int32} : aI (mg 4625 I J R) 2227 14 i = if xvi i 100 = true then some (I 2227 i.toNatClampNeg) else none := e_aI1 (by decide) rfl
theorem owI_2227 {i v : Int32} : wI (mg 4625 I J R) 2227 i v = if xvi i 100 = true then some (mg 4625 (va_up I 2227 (va_up (I 2227) i.toNatClampNeg v)) J R) else none := e_wI1 (by decide) rfl
theorem ogL_2229 : gL (mg 4625 I J R) 2229 14 = some (100 : Int32) := e_gL (by decide) rfl
theorem oaI_2229 {i : Int32} : aI (mg 4625 I J R) 2229 14 i = if xvi i 100 = true then some (I 2229 i.toNatClampNeg) else none := e_aI1 (by decide) rfl
theorem owI_2229 {i v : Int32} : wI (mg 4625 I J R) 2229 i v = if xvi i 100 = true then some (mg 4625 (va_up I 2229 (va_up (I 2229) i.toNatClampNeg v)) J R) else none := e_wI1 (by decide) rfl
theorem ogL_2230 : gL (mg 4625 I J R) 2230 16 = some (9 : Int32) := e_gL (by decide) rfl
theorem oaR_2230 {i : Int32} : aR (mg 4625 I J R) 2230 16 i = if xvi i 9 = true then some (R 2230 i.toNatClampNeg) else none := e_aR1 (by decide) rfl
theorem ogL_2233 : gL (mg 4625 I J R) 2233 14 = some (7 : Int32) := e_gL (by decide) rfl
theorem oaI_2233 {i : Int32} : aI (mg 4625 I J R) 2233 14 i = if xvi i 7 = true then some (I 2233 i.toNatClampNeg) else none := e_aI1 (by decide) rfl
theorem owI_2233 {i v : Int32} : wI (mg 4625 I J R) 2233 i v = if xvi i 7 = true then some (mg 4625 (va_up I 2233 (va_up (I 2233) i.toNatClampNeg v)) J R) else none := e_wI1 (by decide) rfl
theorem ogL_2235 : gL (mg 4625 I J R) 2235 14 = some (7 : Int32) := e_gL (by decide) rfl
theorem oaI_2235 {i : Int32} : aI (mg 4625 I J R) 2235 14 i = if xvi i 7 = true then some (I 2235 i.toNatClampNeg) else none := e_aI1 (by decide) rfl
theorem owI_2235 {i v : Int32} : wI (mg 4625 I J R) 2235 i v = if xvi i 7 = true then some (mg 4625 (va_up I 2235 (va_up (I 2235) i.toNatClampNeg v)) J R) else none := e_wI1 (by decide) rfl
theorem ogL_2238 : gL (mg 4625 I J R) 2238 14 = some (7 : Int32) := e_gL (by decide) rfl
theorem oaI_2238 {i : Int32} : aI (mg 4625 I J R) 2238 14 i = if xvi i 7 = true then some (I 2238 i.toNatClampNeg) else none := e_aI1 (by decide) rfl
theorem owI_2238 {i v : Int32} : wI (mg 4625 I J R) 2238 i v = if xvi i 7 = true then some (mg 4625 (va_up I 2238 (va_up (I 2238) i.toNatClampNeg v)) J R) else none := e_wI1 (by decide) rfl
theorem ogL_2240 : gL (mg 4625 I J R) 2240 14 = some (7 : Int32) := e_gL (by decide) rfl
theorem oaI_2240 {i : Int32} : aI (mg 4625 I J R) 2240 14 i = if xvi i 7 = true then some (I 2240 i.toNatClampNeg) else none := e_aI1 (by decide) rfl
theorem owI_2240 {i v : Int32} : wI (mg 4625 I J R) 2240 i v = if xvi i 7 = true then some (mg 4625 (va_up I 2240 (va_up (I 2240) i.toNatClampNeg v)) J R) else none := e_wI1 (by decide) rfl
theorem ogL_2243 : gL (mg 4625 I J R) 2243 14 = some (7 : Int32) := e_gL (by decide) rfl
theorem oaI_2243 {i : Int32} : aI (mg 4625 I J R) 2243 14 i = if xvi i 7 = true then some (I 2243 i.toNatClampNeg) else none := e_aI1 (by decide) rfl
theorem owI_2243 {i v : Int32} : wI (mg 4625 I J R) 2243 i v = if xvi i 7 = true then some (mg 4625 (va_up I 2243 (va_up (I 2243) i.toNatClampNeg v)) J R) else none := e_wI1 (by decide) rfl
theorem ogL_2245 : gL (mg 4625 I J R) 2245 14 = some (7 : Int32) := e_gL (by decide) rfl
theorem oaI_2245 {i : Int32} : aI (mg 4625 I J R) 2245 14 i = if xvi i 7 = true then some (I 2245 i.toNatClampNeg) else none := e_aI1 (by decide) rfl
theorem owI_2245 {i v : Int32} : wI (mg 4625 I J R) 2245 i v = if xvi i 7 = true then some (mg 4625 (va_up I 2245 (va_up (I 2245) i.toNatClampNeg v)) J R) else none := e_wI1 (by decide) rfl
theorem ogL_4543 : gL (mg 4625 I J R) 4543 14 = some (7 : Int32) := e_gL (by decide) rfl
theorem oaI_4543 {i : Int32} : aI (mg 4625 I J R) 4543 14 i = if xvi i 7 = true then some (I 4543 i.toNatClampNeg) else none := e_aI1 (by decide) rfl
theorem owI_4543 {i v : Int32} : wI (mg 4625 I J R) 4543 i v = if xvi i 7 = true then some (mg 4625 (va_up I 4543 (va_up (I 4543) i.toNatClampNeg v)) J R) else none := e_wI1 (by decide) rfl
theorem ogL_4545 : gL (mg 4625 I J R) 4545 14 = some (7 : Int32) := e_gL (by decide) rfl
theorem oaI_4545 {i : Int32} : aI (mg 4625 I J R) 4545 14 i = if xvi i 7 = true then some (I 4545 i.toNatClampNeg) else none := e_aI1 (by decide) rfl
theorem owI_4545 {i v : Int32} : wI (mg 4625 I J R) 4545 i v = if xvi i 7 = true then some (mg 4625 (va_up I 4545 (va_up (I 4545) i.toNatClampNeg v)) J R) else none := e_wI1 (by decide) rfl
theorem ogL_4548 : gL (mg 4625 I J R) 4548 14 = some (7 : Int32) := e_gL (by decide) rfl
theorem oaI_4548 {i : Int32} : aI (mg 4625 I J R) 4548 14 i = if xvi i 7 = true then some (I 4548 i.toNatClampNeg) else none := e_aI1 (by decide) rfl
theorem owI_4548 {i v : Int32} : wI (mg 4625 I J R) 4548 i v = if xvi i 7 = true then some (mg 4625 (va_up I 4548 (va_up (I 4548) i.toNatClampNeg v)) J R) else none := e_wI1 (by decide) rfl
theorem ogL_4550 : gL (mg 4625 I J R) 4550 14 = some (7 : Int32) := e_gL (by decide) rfl
theorem oaI_4550 {i : Int32} : aI (mg 4625 I J R) 4550 14 i = if xvi i 7 = true then some (I 4550 i.toNatClampNeg) else none := e_aI1 (by decide) rfl
theorem owI_4550 {i v : Int32} : wI (mg 4625 I J R) 4550 i v = if xvi i 7 = true then some (mg 4625 (va_up I 4550 (va_up (I 4550) i.toNatClampNeg v)) J R) else none := e_wI1 (by decide) rfl
theorem ogL_4552 : gL (mg 4625 I J R) 4552 14 = some (80 : Int32) := e_gL (by decide) rfl
theorem oaI_4552 {i : Int32} : aI (mg 4625 I J R) 4552 14 i = if xvi i 80 = true then some (I 4552 i.toNatClampNeg) else none := e_aI1 (by decide) rfl
theorem owI_4552 {i v : Int32} : wI (mg 4625 I J R) 4552 i v = if xvi i 80 = true then some (mg 4625 (va_up I 4552 (va_up (I 4552) i.toNatClampNeg v)) J R) else none := e_wI1 (by decide) rfl
theorem ogL_4553 : gL (mg 4625 I J R) 4553 14 = some (80 : Int32) := e_gL (by decide) rfl
theorem oaI_4553 {i : Int32} : aI (mg 4625 I J R) 4553 14 i = if xvi i 80 = true then some (I 4553 i.toNatClampNeg) else none := e_aI1 (by decide) rfl
theorem owI_4553 {i v : Int32} : wI (mg 4625 I J R) 4553 i v = if xvi i 80 = true then some (mg 4625 (va_up I 4553 (va_up (I 4553) i.toNatClampNeg v)) J R) else none := e_wI1 (by decide) rfl
theorem ogL_4554 : gL (mg 4625 I J R) 4554 14 = some (80 : Int32) := e_gL (by decide) rfl
theorem oaI_4554 {i : Int32} : aI (mg 4625 I J R) 4554 14 i = if xvi i 80 = true then some (I 4554 i.toNatClampNeg) else none := e_aI1 (by decide) rfl
theorem owI_4554 {i v : Int32} : wI (mg 4625 I J R) 4554 i v = if xvi i 80 = true then some (mg 4625 (va_up I 4554 (va_up (I 4554) i.toNatClampNeg v)) J R) else none := e_wI1 (by decide) rfl
theorem ogL_4555 : gL (mg 4625 I J R) 4555 14 = some (80 : Int32) := e_gL (by decide) rfl
theorem oaI_4555 {i : Int32} : aI (mg 4625 I J R) 4555 14 i = if xvi i 80 = true then some (I 4555 i.toNatClampNeg) else none := e_aI1 (by decide) rfl
theorem owI_4555 {i v : Int32} : wI (mg 4625 I J R) 4555 i v = if xvi i 80 = true then some (mg 4625 (va_up I 4555 (va_up (I 4555) i.toNatClampNeg v)) J R) else none := e_wI1 (by decide) rfl
theorem ogL_4556 : gL (mg 4625 I J R) 4556 14 = some (80 : Int32) := e_gL (by decide) rfl
theorem oaI_4556 {i : Int32} : aI (mg 4625 I J R) 4556 14 i = if xvi i 80 = true then some (I 4556 i.toNatClampNeg) else none := e_aI1 (by decide) rfl
theorem owI_4556 {i v : Int32} : wI (mg 4625 I J R) 4556 i v = if xvi i 80 = true then some (mg 4625 (va_up I 4556 (va_up (I 4556) i.toNatClampNeg v)) J R) else none := e_wI1 (by decide) rfl
theorem ogL_4557 : gL (mg 4625 I J R) 4557 14 = some (80 : Int32) := e_gL (by decide) rfl
theorem oaI_4557 {i : Int32} : aI (mg 4625 I J R) 4557 14 i = if xvi i 80 = true then some (I 4557 i.toNatClampNeg) else none := e_aI1 (by decide) rfl
theorem owI_4557 {i v : Int32} : wI (mg 4625 I J R) 4557 i v = if xvi i 80 = true then some (mg 4625 (va_up I 4557 (va_up (I 4557) i.toNatClampNeg v)) J R) else none := e_wI1 (by decide) rfl
theorem ogL_4558 : gL (mg 4625 I J R) 4558 14 = some (80 : Int32) := e_gL (by decide) rfl
theorem oaI_4558 {i : Int32} : aI (mg 4625 I J R) 4558 14 i = if xvi i 80 = true then some (I 4558 i.toNatClampNeg) else none := e_aI1 (by decide) rfl
theorem owI_4558 {i v : Int32} : wI (mg 4625 I J R) 4558 i v = if xvi i 80 = true then some (mg 4625 (va_up I 4558 (va_up (I 4558) i.toNatClampNeg v)) J R) else none := e_wI1 (by decide) rfl
theorem ogL_4559 : gL (mg 4625 I J R) 4559 14 = some (80 : Int32) := e_gL (by decide) rfl
theorem oaI_4559 {i : Int32} : aI (mg 4625 I J R) 4559 14 i = if xvi i 80 = true then some (I 4559 i.toNatClampNeg) else none := e_aI1 (by decide) rfl
theorem owI_4559 {i v : Int32} : wI (mg 4625 I J R) 4559 i v = if xvi i 80 = true then some (mg 4625 (va_up I 4559 (va_up (I 4559) i.toNatClampNeg v)) J R) else none := e_wI1 (by decide) rfl
theorem ogL_4560 : gL (mg 4625 I J R) 4560 14 = some (80 : Int32) := e_gL (by decide) rfl
theorem oaI_4560 {i : Int32} : aI (mg 4625 I J R) 4560 14 i = if xvi i 80 = true then some (I 4560 i.toNatClampNeg) else none := e_aI1 (by decide) rfl
theorem owI_4560 {i v : Int32} : wI (mg 4625 I J R) 4560 i v = if xvi i 80 = true then some (mg 4625 (va_up I 4560 (va_up (I 4560) i.toNatClampNeg v)) J R) else none := e_wI1 (by decide) rfl
theorem ogL_4562 : gL (mg 4625 I J R) 4562 14 = some (7040 : Int32) := e_gL (by decide) rfl
theorem oaI_4562 {i : Int32} : aI (mg 4625 I J R) 4562 14 i = if xvi i 7040 = true then some (I 4562 i.toNatClampNeg) else none := e_aI1 (by decide) rfl
theorem owI_4562 {i v : Int32} : wI (mg 4625 I J R) 4562 i v = if xvi i 7040 = true then some (mg 4625 (va_up I 4562 (va_up (I 4562) i.toNatClampNeg v)) J R) else none := e_wI1 (by decide) rfl
theorem ogL_4563 : gL (mg 4625 I J R) 4563 14 = some (16 : Int32) := e_gL (by decide) rfl
theorem oaI_4563 {i : Int32} : aI (mg 4625 I J R) 4563 14 i = if xvi i 16 = true then some (I 4563 i.toNatClampNeg) else none := e_aI1 (by decide) rfl
theorem owI_4563 {i v : Int32} : wI (mg 4625 I J R) 4563 i v = if xvi i 16 = true then some (mg 4625 (va_up I 4563 (va_up (I 4563) i.toNatClampNeg v)) J R) else none := e_wI1 (by decide) rfl
theorem ogL_4564 : gL (mg 4625 I J R) 4564 14 = some (104160 : Int32) := e_gL (by decide) rfl
theorem oaI_4564 {i : Int32} : aI (mg 4625 I J R) 4564 14 i = if xvi i 104160 = true then some (I 4564 i.toNatClampNeg) else none := e_aI1 (by decide) rfl
theorem owI_4564 {i v : Int32} : wI (mg 4625 I J R) 4564 i v = if xvi i 104160 = true then some (mg 4625 (va_up I 4564 (va_up (I 4564) i.toNatClampNeg v)) J R) else none := e_wI1 (by decide) rfl
theorem ogL_4565 : gL (mg 4625 I J R) 4565 14 = some (20300 : Int32) := e_gL (by decide) rfl
theorem oaI_4565 {i : Int32} : aI (mg 4625 I J R) 4565 14 i = if xvi i 20300 = true then some (I 4565 i.toNatClampNeg) else none := e_aI1 (by decide) rfl
theorem owI_4565 {i v : Int32} : wI (mg 4625 I J R) 4565 i v = if xvi i 20300 = true then some (mg 4625 (va_up I 4565 (va_up (I 4565) i.toNatClampNeg v)) J R) else none := e_wI1 (by decide) rfl
theorem ogL_4566 : gL (mg 4625 I J R) 4566 14 = some (20300 : Int32) := e_gL (by decide) rfl
theorem oaI_4566 {i : Int32} : aI (mg 4625 I J R) 4566 14 i = if xvi i 20300 = true then some (I 4566 i.toNatClampNeg) else none := e_aI1 (by decide) rfl
theorem owI_4566 {i v : Int32} : wI (mg 4625 I J R) 4566 i v = if xvi i 20300 = true then some (mg 4625 (va_up I 4566 (va_up (I 4566) i.toNatClampNeg v)) J R) else none := e_wI1 (by decide) rfl
theorem ogL_4567 : gL (mg 4625 I J R) 4567 14 = some (20300 : Int32) := e_gL (by decide) rfl
theorem oaI_4567 {i : Int32} : aI (mg 4625 I J R) 4567 14 i = if xvi i 20300 = true then some (I 4567 i.toNatClampNeg) else none := e_aI1 (by decide) rfl
theorem owI_4567 {i v : Int32} : wI (mg 4625 I J R) 4567 i v = if xvi i 20300 = true then some (mg 4625 (va_up I 4567 (va_up (I 4567) i.toNatClampNeg v)) J R) else none := e_wI1 (by decide) rfl
theorem ogL_4568 : gL (mg 4625 I J R) 4568 14 = some (20300 : Int32) := e_gL (by decide) rfl
theorem oaI_4568 {i : Int32} : aI (mg 4625 I J R) 4568 14 i = if xvi i 20300 = true then some (I 4568 i.toNatClampNeg) else none := e_aI1 (by decide) rfl
theorem owI_4568 {i v : Int32} : wI (mg 4625 I J R) 4568 i v = if xvi i 20300 = true then some (mg 4625 (va_up I 4568 (va_up (I 4568) i.toNatClampNeg v)) J R) else none := e_wI1 (by decide) rfl
theorem ogL_4569 : gL (mg 4625 I J R) 4569 14 = some (20300 : Int32) := e_gL (by decide) rfl
theorem oaI_4569 {i : Int32} : aI (mg 4625 I J R) 4569 14 i = if xvi i 20300 = true then some (I 4569 i.toNatClampNeg) else none := e_aI1 (by decide) rfl
theorem owI_4569 {i v : Int32} : wI (mg 4625 I J R) 4569 i v = if xvi i 20300 = true then some (mg 4625 (va_up I 4569 (va_up (I 4569) i.toNatClampNeg v)) J R) else none := e_wI1 (by decide) rfl
theorem ogL_4570 : gL (mg 4625 I J R) 4570 14 = some (30 : Int32) := e_gL (by decide) rfl
theorem oaI_4570 {i : Int32} : aI (mg 4625 I J R) 4570 14 i = if xvi i 30 = true then some (I 4570 i.toNatClampNeg) else none := e_aI1 (by decide) rfl
theorem owI_4570 {i v : Int32} : wI (mg 4625 I J R) 4570 i v = if xvi i 30 = true then some (mg 4625 (va_up I 4570 (va_up (I 4570) i.toNatClampNeg v)) J R) else none := e_wI1 (by decide) rfl
theorem ogL_4571 : gL (mg 4625 I J R) 4571 14 = some (26 : Int32) := e_gL (by decide) rfl
theorem oaI_4571 {i : Int32} : aI (mg 4625 I J R) 4571 14 i = if xvi i 26 = true then some (I 4571 i.toNatClampNeg) else none := e_aI1 (by decide) rfl
theorem owI_4571 {i v : Int32} : wI (mg 4625 I J R) 4571 i v = if xvi i 26 = true then some (mg 4625 (va_up I 4571 (va_up (I 4571) i.toNatClampNeg v)) J R) else none := e_wI1 (by decide) rfl
theorem ogL_4572 : gL (mg 4625 I J R) 4572 14 = some (26 : Int32) := e_gL (by decide) rfl
theorem oaI_4572 {i : Int32} : aI (mg 4625 I J R) 4572 14 i = if xvi i 26 = true then some (I 4572 i.toNatClampNeg) else none := e_aI1 (by decide) rfl
theorem owI_4572 {i v : Int32} : wI (mg 4625 I J R) 4572 i v = if xvi i 26 = true then some (mg 4625 (va_up I 4572 (va_up (I 4572) i.toNatClampNeg v)) J R) else none := e_wI1 (by decide) rfl
theorem ogL_4573 : gL (mg 4625 I J R) 4573 14 = some (208 : Int32) := e_gL (by decide) rfl
theorem oaI_4573 {i : Int32} : aI (mg 4625 I J R) 4573 14 i = if xvi i 208 = true then some (I 4573 i.toNatClampNeg) else none := e_aI1 (by decide) rfl
theorem owI_4573 {i v : Int32} : wI (mg 4625 I J R) 4573 i v = if xvi i 208 = true then some (mg 4625 (va_up I 4573 (va_up (I 4573) i.toNatClampNeg v)) J R) else none := e_wI1 (by decide) rfl
theorem ogL_4574 : gL (mg 4625 I J R) 4574 14 = some (100 : Int32) := e_gL (by decide) rfl
theorem oaI_4574 {i : Int32} : aI (mg 4625 I J R) 4574 14 i = if xvi i 100 = true then some (I 4574 i.toNatClampNeg) else none := e_aI1 (by decide) rfl
theorem owI_4574 {i v : Int32} : wI (mg 4625 I J R) 4574 i v = if xvi i 100 = true then some (mg 4625 (va_up I 4574 (va_up (I 4574) i.toNatClampNeg v)) J R) else none := e_wI1 (by decide) rfl
theorem ogL_4575 : gL (mg 4625 I J R) 4575 14 = some (48 : Int32) := e_gL (by decide) rfl
theorem oaI_4575 {i : Int32} : aI (mg 4625 I J R) 4575 14 i = if xvi i 48 = true then some (I 4575 i.toNatClampNeg) else none := e_aI1 (by decide) rfl
theorem owI_4575 {i v : Int32} : wI (mg 4625 I J R) 4575 i v = if xvi i 48 = true then some (mg 4625 (va_up I 4575 (va_up (I 4575) i.toNatClampNeg v)) J R) else none := e_wI1 (by decide) rfl
theorem ogL_4576 : gL (mg 4625 I J R) 4576 14 = some (48 : Int32) := e_gL (by decide) rfl
theorem oaI_4576 {i : Int32} : aI (mg 4625 I J R) 4576 14 i = if xvi i 48 = true then some (I 4576 i.toNatClampNeg) else none := e_aI1 (by decide) rfl
theorem owI_4576 {i v : Int32} : wI (mg 4625 I J R) 4576 i v = if xvi i 48 = true then some (mg 4625 (va_up I 4576 (va_up (I 4576) i.toNatClampNeg v)) J R) else none := e_wI1 (by decide) rfl
theorem ogL_4577 : gL (mg 4625 I J R) 4577 14 = some (48 : Int32) := e_gL (by decide) rfl
theorem oaI_4577 {i : Int32} : aI (mg 4625 I J R) 4577 14 i = if xvi i 48 = true then some (I 4577 i.toNatClampNeg) else none := e_aI1 (by decide) rfl
theorem owI_4577 {i v : Int32} : wI (mg 4625 I J R) 4577 i v = if xvi i 48 = true then some (mg 4625 (va_up I 4577 (va_up (I 4577) i.toNatClampNeg v)) J R) else none := e_wI1 (by decide) rfl
theorem ogL_4578 : gL (mg 4625 I J R) 4578 14 = some (60 : Int32) := e_gL (by decide) rfl
theorem oaI_4578 {i : Int32} : aI (mg 4625 I J R) 4578 14 i = if xvi i 60 = true then some (I 4578 i.toNatClampNeg) else none := e_aI1 (by decide) rfl
theorem owI_4578 {i v : Int32} : wI (mg 4625 I J R) 4578 i v = if xvi i 60 = true then some (mg 4625 (va_up I 4578 (va_up (I 4578) i.toNatClampNeg v)) J R) else none := e_wI1 (by decide) rfl
theorem ogL_4579 : gL (mg 4625 I J R) 4579 14 = some (1000 : Int32) := e_gL (by decide) rfl
theorem oaI_4579 {i : Int32} : aI (mg 4625 I J R) 4579 14 i = if xvi i 1000 = true then some (I 4579 i.toNatClampNeg) else none := e_aI1 (by decide) rfl
theorem owI_4579 {i v : Int32} : wI (mg 4625 I J R) 4579 i v = if xvi i 1000 = true then some (mg 4625 (va_up I 4579 (va_up (I 4579) i.toNatClampNeg v)) J R) else none := e_wI1 (by decide) rfl
theorem ogL_4580 : gL (mg 4625 I J R) 4580 14 = some (1000 : Int32) := e_gL (by decide) rfl
theorem oaI_4580 {i : Int32} : aI (mg 4625 I J R) 4580 14 i = if xvi i 1000 = true then some (I 4580 i.toNatClampNeg) else none := e_aI1 (by decide) rfl
theorem owI_4580 {i v : Int32} : wI (mg 4625 I J R) 4580 i v = if xvi i 1000 = true then some (mg 4625 (va_up I 4580 (va_up (I 4580) i.toNatClampNeg v)) J R) else none := e_wI1 (by decide) rfl
theorem ogL_4581 : gL (mg 4625 I J R) 4581 14 = some (1000 : Int32) := e_gL (by decide) rfl
theorem oaI_4581 {i : Int32} : aI (mg 4625 I J R) 4581 14 i = if xvi i 1000 = true then some (I 4581 i.toNatClampNeg) else none := e_aI1 (by decide) rfl
theorem owI_4581 {i v : Int32} : wI (mg 4625 I J R) 4581 i v = if xvi i 1000 = true then some (mg 4625 (va_up I 4581 (va_up (I 4581) i.toNatClampNeg v)) J R) else none := e_wI1 (by decide) rfl
theorem ogL_4582 : gL (mg 4625 I J R) 4582 14 = some (1000 : Int32) := e_gL (by decide) rfl
theorem oaI_4582 {i : Int32} : aI (mg 4625 I J R) 4582 14 i = if xvi i 1000 = true then some (I 4582 i.toNatClampNeg) else none := e_aI1 (by decide) rfl
theorem owI_4582 {i v : Int32} : wI (mg 4625 I J R) 4582 i v = if xvi i 1000 = true then some (mg 4625 (va_up I 4582 (va_up (I 4582) i.toNatClampNeg v)) J R) else none := e_wI1 (by decide) rfl
theorem ogL_4583 : gL (mg 4625 I J R) 4583 15 = some (1000 : Int32) := e_gL (by decide) rfl
theorem oaI_4583 {i : Int32} : aI (mg 4625 I J R) 4583 15 i = if xvi i 1000 = true then some (I 4583 i.toNatClampNeg) else none := e_aI1 (by decide) rfl
theorem owZ_4583 {i v : Int32} : wZ (mg 4625 I J R) 4583 i v = if (xvi i 1000 && (v == 0 || v == 1)) = true then some (mg 4625 (va_up I 4583 (va_up (I 4583) i.toNatClampNeg v)) J R) else none := e_wZ1 (by decide) rfl
theorem ogL_4584 : gL (mg 4625 I J R) 4584 14 = some (100 : Int32) := e_gL (by decide) rfl
theorem oaI_4584 {i : Int32} : aI (mg 4625 I J R) 4584 14 i = if xvi i 100 = true then some (I 4584 i.toNatClampNeg) else none := e_aI1 (by decide) rfl
theorem owI_4584 {i v : Int32} : wI (mg 4625 I J R) 4584 i v = if xvi i 100 = true then some (mg 4625 (va_up I 4584 (va_up (I 4584) i.toNatClampNeg v)) J R) else none := e_wI1 (by decide) rfl
theorem ogL_4585 : gL (mg 4625 I J R) 4585 14 = some (100 : Int32) := e_gL (by decide) rfl
theorem oaI_4585 {i : Int32} : aI (mg 4625 I J R) 4585 14 i = if xvi i 100 = true then some (I 4585 i.toNatClampNeg) else none := e_aI1 (by decide) rfl
theorem owI_4585 {i v : Int32} : wI (mg 4625 I J R) 4585 i v = if xvi i 100 = true then some (mg 4625 (va_up I 4585 (va_up (I 4585) i.toNatClampNeg v)) J R) else none := e_wI1 (by decide) rfl
theorem ogL_4586 : gL (mg 4625 I J R) 4586 14 = some (100 : Int32) := e_gL (by decide) rfl
theorem oaI_4586 {i : Int32} : aI (mg 4625 I J R) 4586 14 i = if xvi i 100 = true then some (I 4586 i.toNatClampNeg) else none := e_aI1 (by decide) rfl
theorem owI_4586 {i v : Int32} : wI (mg 4625 I J R) 4586 i v = if xvi i 100 = true then some (mg 4625 (va_up I 4586 (va_up (I 4586) i.toNatClampNeg v)) J R) else none := e_wI1 (by decide) rfl
theorem ogL_4587 : gL (mg 4625 I J R) 4587 14 = some (100 : Int32) := e_gL (by decide) rfl
theorem oaI_4587 {i : Int32} : aI (mg 4625 I J R) 4587 14 i = if xvi i 100 = true then some (I 4587 i.toNatClampNeg) else none := e_aI1 (by decide) rfl
theorem owI_4587 {i v : Int32} : wI (mg 4625 I J R) 4587 i v = if xvi i 100 = true then some (mg 4625 (va_up I 4587 (va_up (I 4587) i.toNatClampNeg v)) J R) else none := e_wI1 (by decide) rfl
theorem ogL_4588 : gL (mg 4625 I J R) 4588 14 = some (100 : Int32) := e_gL (by decide) rfl
theorem oaI_4588 {i : Int32} : aI (mg 4625 I J R) 4588 14 i = if xvi i 100 = true then some (I 4588 i.toNatClampNeg) else none := e_aI1 (by decide) rfl
theorem owI_4588 {i v : Int32} : wI (mg 4625 I J R) 4588 i v = if xvi i 100 = true then some (mg 4625 (va_up I 4588 (va_up (I 4588) i.toNatClampNeg v)) J R) else none := e_wI1 (by decide) rfl
theorem ogL_4589 : gL (mg 4625 I J R) 4589 14 = some (100 : Int32) := e_gL (by decide) rfl
theorem oaI_4589 {i : Int32} : aI (mg 4625 I J R) 4589 14 i = if xvi i 100 = true then some (I 4589 i.toNatClampNeg) else none := e_aI1 (by decide) rfl
theorem owI_4589 {i v : Int32} : wI (mg 4625 I J R) 4589 i v = if xvi i 100 = true then some (mg 4625 (va_up I 4589 (va_up (I 4589) i.toNatClampNeg v)) J R) else none := e_wI1 (by decide) rfl
theorem ogL_4590 : gL (mg 4625 I J R) 4590 14 = some (100 : Int32) := e_gL (by decide) rfl
theorem oaI_4590 {i : Int32} : aI (mg 4625 I J R) 4590 14 i = if xvi i 100 = true then some (I 4590 i.toNatClampNeg) else none := e_aI1 (by decide) rfl
theorem owI_4590 {i v : Int32} : wI (mg 4625 I J R) 4590 i v = if xvi i 100 = true then some (mg 4625 (va_up I 4590 (va_up (I 4590) i.toNatClampNeg v)) J R) else none := e_wI1 (by decide) rfl
theorem ogL_4591 : gL (mg 4625 I J R) 4591 15 = some (100 : Int32) := e_gL (by decide) rfl
theorem oaI_4591 {i : Int32} : aI (mg 4625 I J R) 4591 15 i = if xvi i 100 = true then some (I 4591 i.toNatClampNeg) else none := e_aI1 (by decide) rfl
theorem owZ_4591 {i v : Int32} : wZ (mg 4625 I J R) 4591 i v = if (xvi i 100 && (v == 0 || v == 1)) = true then some (mg 4625 (va_up I 4591 (va_up (I 4591) i.toNatClampNeg v)) J R) else none := e_wZ1 (by decide) rfl
theorem ogL_4592 : gL (mg 4625 I J R) 4592 14 = some (600 : Int32) := e_gL (by decide) rfl
theorem oaI_4592 {i : Int32} : aI (mg 4625 I J R) 4592 14 i = if xvi i 600 = true then some (I 4592 i.toNatClampNeg) else none := e_aI1 (by decide) rfl
theorem owI_4592 {i v : Int32} : wI (mg 4625 I J R) 4592 i v = if xvi i 600 = true then some (mg 4625 (va_up I 4592 (va_up (I 4592) i.toNatClampNeg v)) J R) else none := e_wI1 (by decide) rfl
theorem ogL_4593 : gL (mg 4625 I J R) 4593 14 = some (600 : Int32) := e_gL (by decide) rfl
theorem oaI_4593 {i : Int32} : aI (mg 4625 I J R) 4593 14 i = if xvi i 600 = true then some (I 4593 i.toNatClampNeg) else none := e_aI1 (by decide) rfl
theorem owI_4593 {i v : Int32} : wI (mg 4625 I J R) 4593 i v = if xvi i 600 = true then some (mg 4625 (va_up I 4593 (va_up (I 4593) i.toNatClampNeg v)) J R) else none := e_wI1 (by decide) rfl
theorem ogL_4594 : gL (mg 4625 I J R) 4594 14 = some (600 : Int32) := e_gL (by decide) rfl
theorem oaI_4594 {i : Int32} : aI (mg 4625 I J R) 4594 14 i = if xvi i 600 = true then some (I 4594 i.toNatClampNeg) else none := e_aI1 (by decide) rfl
theorem owI_4594 {i v : Int32} : wI (mg 4625 I J R) 4594 i v = if xvi i 600 = true then some (mg 4625 (va_up I 4594 (va_up (I 4594) i.toNatClampNeg v)) J R) else none := e_wI1 (by decide) rfl
theorem ogL_4595 : gL (mg 4625 I J R) 4595 14 = some (2000 : Int32) := e_gL (by decide) rfl
theorem oaI_4595 {i : Int32} : aI (mg 4625 I J R) 4595 14 i = if xvi i 2000 = true then some (I 4595 i.toNatClampNeg) else none := e_aI1 (by decide) rfl
theorem owI_4595 {i v : Int32} : wI (mg 4625 I J R) 4595 i v = if xvi i 2000 = true then some (mg 4625 (va_up I 4595 (va_up (I 4595) i.toNatClampNeg v)) J R) else none := e_wI1 (by decide) rfl
theorem ogL_4596 : gL (mg 4625 I J R) 4596 14 = some (600 : Int32) := e_gL (by decide) rfl
theorem oaI_4596 {i : Int32} : aI (mg 4625 I J R) 4596 14 i = if xvi i 600 = true then some (I 4596 i.toNatClampNeg) else none := e_aI1 (by decide) rfl
theorem owI_4596 {i v : Int32} : wI (mg 4625 I J R) 4596 i v = if xvi i 600 = true then some (mg 4625 (va_up I 4596 (va_up (I 4596) i.toNatClampNeg v)) J R) else none := e_wI1 (by decide) rfl
theorem ogL_4597 : gL (mg 4625 I J R) 4597 14 = some (600 : Int32) := e_gL (by decide) rfl
theorem oaI_4597 {i : Int32} : aI (mg 4625 I J R) 4597 14 i = if xvi i 600 = true then some (I 4597 i.toNatClampNeg) else none := e_aI1 (by decide) rfl
theorem owI_4597 {i v : Int32} : wI (mg 4625 I J R) 4597 i v = if xvi i 600 = true then some (mg 4625 (va_up I 4597 (va_up (I 4597) i.toNatClampNeg v)) J R) else none := e_wI1 (by decide) rfl
theorem ogL_4598 : gL (mg 4625 I J R) 4598 14 = some (200 : Int32) := e_gL (by decide) rfl
theorem oaI_4598 {i : Int32} : aI (mg 4625 I J R) 4598 14 i = if xvi i 200 = true then some (I 4598 i.toNatClampNeg) else none := e_aI1 (by decide) rfl
theorem owI_4598 {i v : Int32} : wI (mg 4625 I J R) 4598 i v = if xvi i 200 = true then some (mg 4625 (va_up I 4598 (va_up (I 4598) i.toNatClampNeg v)) J R) else none := e_wI1 (by decide) rfl
theorem ogL_4599 : gL (mg 4625 I J R) 4599 15 = some (26 : Int32) := e_gL (by decide) rfl
theorem oaI_4599 {i : Int32} : aI (mg 4625 I J R) 4599 15 i = if xvi i 26 = true then some (I 4599 i.toNatClampNeg) else none := e_aI1 (by decide) rfl
theorem owZ_4599 {i v : Int32} : wZ (mg 4625 I J R) 4599 i v = if (xvi i 26 && (v == 0 || v == 1)) = true then some (mg 4625 (va_up I 4599 (va_up (I 4599) i.toNatClampNeg v)) J R) else none := e_wZ1 (by decide) rfl
theorem ogL_4600 : gL (mg 4625 I J R) 4600 14 = some (800 : Int32) := e_gL (by decide) rfl
theorem oaI_4600 {i : Int32} : aI (mg 4625 I J R) 4600 14 i = if xvi i 800 = true then some (I 4600 i.toNatClampNeg) else none := e_aI1 (by decide) rfl
theorem owI_4600 {i v : Int32} : wI (mg 4625 I J R) 4600 i v = if xvi i 800 = true then some (mg 4625 (va_up I 4600 (va_up (I 4600) i.toNatClampNeg v)) J R) else none := e_wI1 (by decide) rfl
theorem ogL_4601 : gL (mg 4625 I J R) 4601 14 = some (800 : Int32) := e_gL (by decide) rfl
theorem oaI_4601 {i : Int32} : aI (mg 4625 I J R) 4601 14 i = if xvi i 800 = true then some (I 4601 i.toNatClampNeg) else none := e_aI1 (by decide) rfl
theorem owI_4601 {i v : Int32} : wI (mg 4625 I J R) 4601 i v = if xvi i 800 = true then some (mg 4625 (va_up I 4601 (va_up (I 4601) i.toNatClampNeg v)) J R) else none := e_wI1 (by decide) rfl
theorem ogL_4602 : gL (mg 4625 I J R) 4602 14 = some (800 : Int32) := e_gL (by decide) rfl
theorem oaI_4602 {i : Int32} : aI (mg 4625 I J R) 4602 14 i = if xvi i 800 = true then some (I 4602 i.toNatClampNeg) else none := e_aI1 (by decide) rfl
theorem owI_4602 {i v : Int32} : wI (mg 4625 I J R) 4602 i v = if xvi i 800 = true then some (mg 4625 (va_up I 4602 (va_up (I 4602) i.toNatClampNeg v)) J R) else none := e_wI1 (by decide) rfl
theorem ogL_4603 : gL (mg 4625 I J R) 4603 14 = some (800 : Int32) := e_gL (by decide) rfl
theorem oaI_4603 {i : Int32} : aI (mg 4625 I J R) 4603 14 i = if xvi i 800 = true then some (I 4603 i.toNatClampNeg) else none := e_aI1 (by decide) rfl
theorem owI_4603 {i v : Int32} : wI (mg 4625 I J R) 4603 i v = if xvi i 800 = true then some (mg 4625 (va_up I 4603 (va_up (I 4603) i.toNatClampNeg v)) J R) else none := e_wI1 (by decide) rfl
theorem ogL_4604 : gL (mg 4625 I J R) 4604 14 = some (800 : Int32) := e_gL (by decide) rfl
theorem oaI_4604 {i : Int32} : aI (mg 4625 I J R) 4604 14 i = if xvi i 800 = true then some (I 4604 i.toNatClampNeg) else none := e_aI1 (by decide) rfl
theorem owI_4604 {i v : Int32} : wI (mg 4625 I J R) 4604 i v = if xvi i 800 = true then some (mg 4625 (va_up I 4604 (va_up (I 4604) i.toNatClampNeg v)) J R) else none := e_wI1 (by decide) rfl
theorem ogL_4605 : gL (mg 4625 I J R) 4605 14 = some (800 : Int32) := e_gL (by decide) rfl
theorem oaI_4605 {i : Int32} : aI (mg 4625 I J R) 4605 14 i = if xvi i 800 = true then some (I 4605 i.toNatClampNeg) else none := e_aI1 (by decide) rfl
theorem owI_4605 {i v : Int32} : wI (mg 4625 I J R) 4605 i v = if xvi i 800 = true then some (mg 4625 (va_up I 4605 (va_up (I 4605) i.toNatClampNeg v)) J R) else none := e_wI1 (by decide) rfl
theorem ogL_4606 : gL (mg 4625 I J R) 4606 14 = some (800 : Int32) := e_gL (by decide) rfl
theorem oaI_4606 {i : Int32} : aI (mg 4625 I J R) 4606 14 i = if xvi i 800 = true then some (I 4606 i.toNatClampNeg) else none := e_aI1 (by decide) rfl
theorem owI_4606 {i v : Int32} : wI (mg 4625 I J R) 4606 i v = if xvi i 800 = true then some (mg 4625 (va_up I 4606 (va_up (I 4606) i.toNatClampNeg v)) J R) else none := e_wI1 (by decide) rfl
theorem ogL_4607 : gL (mg 4625 I J R) 4607 14 = some (800 : Int32) := e_gL (by decide) rfl
theorem oaI_4607 {i : Int32} : aI (mg 4625 I J R) 4607 14 i = if xvi i 800 = true then some (I 4607 i.toNatClampNeg) else none := e_aI1 (by decide) rfl
theorem owI_4607 {i v : Int32} : wI (mg 4625 I J R) 4607 i v = if xvi i 800 = true then some (mg 4625 (va_up I 4607 (va_up (I 4607) i.toNatClampNeg v)) J R) else none := e_wI1 (by decide) rfl
theorem ogL_4608 : gL (mg 4625 I J R) 4608 14 = some (500 : Int32) := e_gL (by decide) rfl
theorem oaI_4608 {i : Int32} : aI (mg 4625 I J R) 4608 14 i = if xvi i 500 = true then some (I 4608 i.toNatClampNeg) else none := e_aI1 (by decide) rfl
theorem owI_4608 {i v : Int32} : wI (mg 4625 I J R) 4608 i v = if xvi i 500 = true then some (mg 4625 (va_up I 4608 (va_up (I 4608) i.toNatClampNeg v)) J R) else none := e_wI1 (by decide) rfl
theorem ogL_4609 : gL (mg 4625 I J R) 4609 14 = some (500 : Int32) := e_gL (by decide) rfl
theorem oaI_4609 {i : Int32} : aI (mg 4625 I J R) 4609 14 i = if xvi i 500 = true then some (I 4609 i.toNatClampNeg) else none := e_aI1 (by decide) rfl
theorem owI_4609 {i v : Int32} : wI (mg 4625 I J R) 4609 i v = if xvi i 500 = true then some (mg 4625 (va_up I 4609 (va_up (I 4609) i.toNatClampNeg v)) J R) else none := e_wI1 (by decide) rfl
theorem ogL_4610 : gL (mg 4625 I J R) 4610 14 = some (500 : Int32) := e_gL (by decide) rfl
theorem oaI_4610 {i : Int32} : aI (mg 4625 I J R) 4610 14 i = if xvi i 500 = true then some (I 4610 i.toNatClampNeg) else none := e_aI1 (by decide) rfl
theorem owI_4610 {i v : Int32} : wI (mg 4625 I J R) 4610 i v = if xvi i 500 = true then some (mg 4625 (va_up I 4610 (va_up (I 4610) i.toNatClampNeg v)) J R) else none := e_wI1 (by decide) rfl
theorem ogL_4611 : gL (mg 4625 I J R) 4611 14 = some (100 : Int32) := e_gL (by decide) rfl
theorem oaI_4611 {i : Int32} : aI (mg 4625 I J R) 4611 14 i = if xvi i 100 = true then some (I 4611 i.toNatClampNeg) else none := e_aI1 (by decide) rfl
theorem owI_4611 {i v : Int32} : wI (mg 4625 I J R) 4611 i v = if xvi i 100 = true then some (mg 4625 (va_up I 4611 (va_up (I 4611) i.toNatClampNeg v)) J R) else none := e_wI1 (by decide) rfl
theorem ogL_4612 : gL (mg 4625 I J R) 4612 14 = some (100 : Int32) := e_gL (by decide) rfl
theorem oaI_4612 {i : Int32} : aI (mg 4625 I J R) 4612 14 i = if xvi i 100 = true then some (I 4612 i.toNatClampNeg) else none := e_aI1 (by decide) rfl
theorem owI_4612 {i v : Int32} : wI (mg 4625 I J R) 4612 i v = if xvi i 100 = true then some (mg 4625 (va_up I 4612 (va_up (I 4612) i.toNatClampNeg v)) J R) else none := e_wI1 (by decide) rfl
theorem ogL_4613 : gL (mg 4625 I J R) 4613 14 = some (5832 : Int32) := e_gL (by decide) rfl
theorem oaI_4613 {i : Int32} : aI (mg 4625 I J R) 4613 14 i = if xvi i 5832 = true then some (I 4613 i.toNatClampNeg) else none := e_aI1 (by decide) rfl
theorem owI_4613 {i v : Int32} : wI (mg 4625 I J R) 4613 i v = if xvi i 5832 = true then some (mg 4625 (va_up I 4613 (va_up (I 4613) i.toNatClampNeg v)) J R) else none := e_wI1 (by decide) rfl
theorem ogL_4614 : gL (mg 4625 I J R) 4614 14 = some (27 : Int32) := e_gL (by decide) rfl
theorem oaI_4614 {i : Int32} : aI (mg 4625 I J R) 4614 14 i = if xvi i 27 = true then some (I 4614 i.toNatClampNeg) else none := e_aI1 (by decide) rfl
theorem owI_4614 {i v : Int32} : wI (mg 4625 I J R) 4614 i v = if xvi i 27 = true then some (mg 4625 (va_up I 4614 (va_up (I 4614) i.toNatClampNeg v)) J R) else none := e_wI1 (by decide) rfl
theorem ogL_4615 : gL (mg 4625 I J R) 4615 14 = some (27 : Int32) := e_gL (by decide) rfl
theorem oaI_4615 {i : Int32} : aI (mg 4625 I J R) 4615 14 i = if xvi i 27 = true then some (I 4615 i.toNatClampNeg) else none := e_aI1 (by decide) rfl
theorem owI_4615 {i v : Int32} : wI (mg 4625 I J R) 4615 i v = if xvi i 27 = true then some (mg 4625 (va_up I 4615 (va_up (I 4615) i.toNatClampNeg v)) J R) else none := e_wI1 (by decide) rfl
theorem ogL_4616 : gL (mg 4625 I J R) 4616 14 = some (80 : Int32) := e_gL (by decide) rfl
theorem oaI_4616 {i : Int32} : aI (mg 4625 I J R) 4616 14 i = if xvi i 80 = true then some (I 4616 i.toNatClampNeg) else none := e_aI1 (by decide) rfl
theorem owI_4616 {i v : Int32} : wI (mg 4625 I J R) 4616 i v = if xvi i 80 = true then some (mg 4625 (va_up I 4616 (va_up (I 4616) i.toNatClampNeg v)) J R) else none := e_wI1 (by decide) rfl
theorem ogL_4617 : gL (mg 4625 I J R) 4617 14 = some (20 : Int32) := e_gL (by decide) rfl
theorem oaI_4617 {i : Int32} : aI (mg 4625 I J R) 4617 14 i = if xvi i 20 = true then some (I 4617 i.toNatClampNeg) else none := e_aI1 (by decide) rfl
theorem owI_4617 {i v : Int32} : wI (mg 4625 I J R) 4617 i v = if xvi i 20 = true then some (mg 4625 (va_up I 4617 (va_up (I 4617) i.toNatClampNeg v)) J R) else none := e_wI1 (by decide) rfl
theorem ogL_4618 : gL (mg 4625 I J R) 4618 14 = some (20 : Int32) := e_gL (by decide) rfl
theorem oaI_4618 {i : Int32} : aI (mg 4625 I J R) 4618 14 i = if xvi i 20 = true then some (I 4618 i.toNatClampNeg) else none := e_aI1 (by decide) rfl
theorem owI_4618 {i v : Int32} : wI (mg 4625 I J R) 4618 i v = if xvi i 20 = true then some (mg 4625 (va_up I 4618 (va_up (I 4618) i.toNatClampNeg v)) J R) else none := e_wI1 (by decide) rfl
theorem ogL_4619 : gL (mg 4625 I J R) 4619 14 = some (20 : Int32) := e_gL (by decide) rfl
theorem oaI_4619 {i : Int32} : aI (mg 4625 I J R) 4619 14 i = if xvi i 20 = true then some (I 4619 i.toNatClampNeg) else none := e_aI1 (by decide) rfl
theorem owI_4619 {i v : Int32} : wI (mg 4625 I J R) 4619 i v = if xvi i 20 = true then some (mg 4625 (va_up I 4619 (va_up (I 4619) i.toNatClampNeg v)) J R) else none := e_wI1 (by decide) rfl
theorem ogL_4620 : gL (mg 4625 I J R) 4620 14 = some (20 : Int32) := e_gL (by decide) rfl
theorem oaI_4620 {i : Int32} : aI (mg 4625 I J R) 4620 14 i = if xvi i 20 = true then some (I 4620 i.toNatClampNeg) else none := e_aI1 (by decide) rfl
theorem owI_4620 {i v : Int32} : wI (mg 4625 I J R) 4620 i v = if xvi i 20 = true then some (mg 4625 (va_up I 4620 (va_up (I 4620) i.toNatClampNeg v)) J R) else none := e_wI1 (by decide) rfl
theorem ogL_4621 : gL (mg 4625 I J R) 4621 14 = some (20 : Int32) := e_gL (by decide) rfl
theorem oaI_4621 {i : Int32} : aI (mg 4625 I J R) 4621 14 i = if xvi i 20 = true then some (I 4621 i.toNatClampNeg) else none := e_aI1 (by decide) rfl
theorem owI_4621 {i v : Int32} : wI (mg 4625 I J R) 4621 i v = if xvi i 20 = true then some (mg 4625 (va_up I 4621 (va_up (I 4621) i.toNatClampNeg v)) J R) else none := e_wI1 (by decide) rfl
theorem ogL_4622 : gL (mg 4625 I J R) 4622 14 = some (160 : Int32) := e_gL (by decide) rfl
theorem oaI_4622 {i : Int32} : aI (mg 4625 I J R) 4622 14 i = if xvi i 160 = true then some (I 4622 i.toNatClampNeg) else none := e_aI1 (by decide) rfl
theorem owI_4622 {i v : Int32} : wI (mg 4625 I J R) 4622 i v = if xvi i 160 = true then some (mg 4625 (va_up I 4622 (va_up (I 4622) i.toNatClampNeg v)) J R) else none := e_wI1 (by decide) rfl
theorem ogL_4623 : gL (mg 4625 I J R) 4623 14 = some (122 : Int32) := e_gL (by decide) rfl
theorem oaI_4623 {i : Int32} : aI (mg 4625 I J R) 4623 14 i = if xvi i 122 = true then some (I 4623 i.toNatClampNeg) else none := e_aI1 (by decide) rfl
theorem owI_4623 {i v : Int32} : wI (mg 4625 I J R) 4623 i v = if xvi i 122 = true then some (mg 4625 (va_up I 4623 (va_up (I 4623) i.toNatClampNeg v)) J R) else none := e_wI1 (by decide) rfl
theorem ogL_4624 : gL (mg 4625 I J R) 4624 19 = some (1 : Int32) := e_gL (by decide) rfl
theorem oaJ_4624 {i : Int32} : aJ (mg 4625 I J R) 4624 i = if xvi i 1 = true then some (J 4624 i.toNatClampNeg) else none := e_aJ1 (by decide) rfl
theorem owJ_4624 {i : Int32} {v : Int64} : wJ (mg 4625 I J R) 4624 i v = if xvi i 1 = true then some (mg 4625 I (va_up J 4624 (va_up (J 4624) i.toNatClampNeg v)) R) else none := e_wJ1 (by decide) rfl
theorem up_if {α : Type} {f : Nat → α} {k j : Nat} {v : α} : va_up f k v j = if j = k then v else f j := rfl
end EO
