/-! each access to an object that is alone of its kind, with what follows -/
section GB
variable {I : Nat → Nat → Int32} {J : Nat → Nat → Int64} {R : Nat → Nat → Option Nat} {β : Type}
theorem gi_0 {k : Nat} {F : Int32 → Option β} : (gI (mg (4562 + zn J) I J R) 0 11 k).bind F = F (I 0 k) := by rw [ogI_0]; rfl
theorem gs_0 {k : Nat} {v : Int32} {F : xM → Option β} : (sI (mg (4562 + zn J) I J R) 0 11 k v).bind F = F (mg (4562 + zn J) (up I 0 k v) J R) := by rw [osI_0]; rfl
theorem gr_0_2 {F : Nat → Option β} (hR : RA R) : (gR (mg (4562 + zn J) I J R) 0 11 2).bind F = F 11 := by rw [ogR_0_2 hR]; rfl
theorem gr_0_3 {F : Nat → Option β} (hR : RA R) : (gR (mg (4562 + zn J) I J R) 0 11 3).bind F = F 540 := by rw [ogR_0_3 hR]; rfl
theorem gr_0_5 {F : Nat → Option β} (hR : RA R) : (gR (mg (4562 + zn J) I J R) 0 11 5).bind F = F 563 := by rw [ogR_0_5 hR]; rfl
theorem gr_0_6 {F : Nat → Option β} (hR : RA R) : (gR (mg (4562 + zn J) I J R) 0 11 6).bind F = F 567 := by rw [ogR_0_6 hR]; rfl
theorem gr_0_7 {F : Nat → Option β} (hR : RA R) : (gR (mg (4562 + zn J) I J R) 0 11 7).bind F = F 1784 := by rw [ogR_0_7 hR]; rfl
theorem gr_0_8 {F : Nat → Option β} (hR : RA R) : (gR (mg (4562 + zn J) I J R) 0 11 8).bind F = F 2206 := by rw [ogR_0_8 hR]; rfl
theorem gr_0_10 {F : Nat → Option β} (hR : RA R) : (gR (mg (4562 + zn J) I J R) 0 11 10).bind F = F 4541 := by rw [ogR_0_10 hR]; rfl
theorem gr_0_11 {F : Nat → Option β} (hR : RA R) : (gR (mg (4562 + zn J) I J R) 0 11 11).bind F = F 4546 := by rw [ogR_0_11 hR]; rfl
theorem gr_0_12 {F : Nat → Option β} (hR : RA R) : (gR (mg (4562 + zn J) I J R) 0 11 12).bind F = F 4551 := by rw [ogR_0_12 hR]; rfl
theorem gr_0_13 {F : Nat → Option β} (hR : RA R) : (gR (mg (4562 + zn J) I J R) 0 11 13).bind F = F 4559 := by rw [ogR_0_13 hR]; rfl
theorem gr_0_14 {F : Nat → Option β} (hR : RA R) : (gR (mg (4562 + zn J) I J R) 0 11 14).bind F = F 4560 := by rw [ogR_0_14 hR]; rfl
theorem gi_11 {k : Nat} {F : Int32 → Option β} : (gI (mg (4562 + zn J) I J R) 11 1 k).bind F = F (I 11 k) := by rw [ogI_11]; rfl
theorem gs_11 {k : Nat} {v : Int32} {F : xM → Option β} : (sI (mg (4562 + zn J) I J R) 11 1 k v).bind F = F (mg (4562 + zn J) (up I 11 k v) J R) := by rw [osI_11]; rfl
theorem gr_11_1 {F : Nat → Option β} (hR : RA R) : (gR (mg (4562 + zn J) I J R) 11 1 1).bind F = F 13 := by rw [ogR_11_1 hR]; rfl
theorem gr_11_2 {F : Nat → Option β} (hR : RA R) : (gR (mg (4562 + zn J) I J R) 11 1 2).bind F = F 14 := by rw [ogR_11_2 hR]; rfl
theorem gr_11_3 {F : Nat → Option β} (hR : RA R) : (gR (mg (4562 + zn J) I J R) 11 1 3).bind F = F 15 := by rw [ogR_11_3 hR]; rfl
theorem gr_11_4 {F : Nat → Option β} (hR : RA R) : (gR (mg (4562 + zn J) I J R) 11 1 4).bind F = F 16 := by rw [ogR_11_4 hR]; rfl
theorem gr_11_6 {F : Nat → Option β} (hR : RA R) : (gR (mg (4562 + zn J) I J R) 11 1 6).bind F = F 17 := by rw [ogR_11_6 hR]; rfl
theorem gr_11_7 {F : Nat → Option β} (hR : RA R) : (gR (mg (4562 + zn J) I J R) 11 1 7).bind F = F 18 := by rw [ogR_11_7 hR]; rfl
theorem gr_11_8 {F : Nat → Option β} (hR : RA R) : (gR (mg (4562 + zn J) I J R) 11 1 8).bind F = F 19 := by rw [ogR_11_8 hR]; rfl
theorem gr_11_9 {F : Nat → Option β} (hR : RA R) : (gR (mg (4562 + zn J) I J R) 11 1 9).bind F = F 46 := by rw [ogR_11_9 hR]; rfl
theorem gr_11_10 {F : Nat → Option β} (hR : RA R) : (gR (mg (4562 + zn J) I J R) 11 1 10).bind F = F 47 := by rw [ogR_11_10 hR]; rfl
theorem gr_11_11 {F : Nat → Option β} (hR : RA R) : (gR (mg (4562 + zn J) I J R) 11 1 11).bind F = F 48 := by rw [ogR_11_11 hR]; rfl
theorem gr_11_12 {F : Nat → Option β} (hR : RA R) : (gR (mg (4562 + zn J) I J R) 11 1 12).bind F = F 69 := by rw [ogR_11_12 hR]; rfl
theorem gi_540 {k : Nat} {F : Int32 → Option β} : (gI (mg (4562 + zn J) I J R) 540 6 k).bind F = F (I 540 k) := by rw [ogI_540]; rfl
theorem gs_540 {k : Nat} {v : Int32} {F : xM → Option β} : (sI (mg (4562 + zn J) I J R) 540 6 k v).bind F = F (mg (4562 + zn J) (up I 540 k v) J R) := by rw [osI_540]; rfl
theorem gr_540_0 {F : Nat → Option β} (hR : RA R) : (gR (mg (4562 + zn J) I J R) 540 6 0).bind F = F 11 := by rw [ogR_540_0 hR]; rfl
theorem gr_540_1 {F : Nat → Option β} (hR : RA R) : (gR (mg (4562 + zn J) I J R) 540 6 1).bind F = F 541 := by rw [ogR_540_1 hR]; rfl
theorem gr_540_2 {F : Nat → Option β} (hR : RA R) : (gR (mg (4562 + zn J) I J R) 540 6 2).bind F = F 542 := by rw [ogR_540_2 hR]; rfl
theorem gr_540_3 {F : Nat → Option β} (hR : RA R) : (gR (mg (4562 + zn J) I J R) 540 6 3).bind F = F 543 := by rw [ogR_540_3 hR]; rfl
theorem gr_540_4 {F : Nat → Option β} (hR : RA R) : (gR (mg (4562 + zn J) I J R) 540 6 4).bind F = F 544 := by rw [ogR_540_4 hR]; rfl
theorem gr_540_9 {F : Nat → Option β} (hR : RA R) : (gR (mg (4562 + zn J) I J R) 540 6 9).bind F = F 545 := by rw [ogR_540_9 hR]; rfl
theorem gr_540_10 {F : Nat → Option β} (hR : RA R) : (gR (mg (4562 + zn J) I J R) 540 6 10).bind F = F 546 := by rw [ogR_540_10 hR]; rfl
theorem gr_540_11 {F : Nat → Option β} (hR : RA R) : (gR (mg (4562 + zn J) I J R) 540 6 11).bind F = F 547 := by rw [ogR_540_11 hR]; rfl
theorem gr_540_12 {F : Nat → Option β} (hR : RA R) : (gR (mg (4562 + zn J) I J R) 540 6 12).bind F = F 548 := by rw [ogR_540_12 hR]; rfl
theorem gr_540_13 {F : Nat → Option β} (hR : RA R) : (gR (mg (4562 + zn J) I J R) 540 6 13).bind F = F 549 := by rw [ogR_540_13 hR]; rfl
theorem gr_540_15 {F : Nat → Option β} (hR : RA R) : (gR (mg (4562 + zn J) I J R) 540 6 15).bind F = F 550 := by rw [ogR_540_15 hR]; rfl
theorem gr_540_17 {F : Nat → Option β} (hR : RA R) : (gR (mg (4562 + zn J) I J R) 540 6 17).bind F = F 551 := by rw [ogR_540_17 hR]; rfl
theorem gi_559 {k : Nat} {F : Int32 → Option β} : (gI (mg (4562 + zn J) I J R) 559 5 k).bind F = F (I 559 k) := by rw [ogI_559]; rfl
theorem gs_559 {k : Nat} {v : Int32} {F : xM → Option β} : (sI (mg (4562 + zn J) I J R) 559 5 k v).bind F = F (mg (4562 + zn J) (up I 559 k v) J R) := by rw [osI_559]; rfl
theorem gr_559_0 {F : Nat → Option β} (hR : RA R) : (gR (mg (4562 + zn J) I J R) 559 5 0).bind F = F 540 := by rw [ogR_559_0 hR]; rfl
theorem gr_559_1 {F : Nat → Option β} (hR : RA R) : (gR (mg (4562 + zn J) I J R) 559 5 1).bind F = F 560 := by rw [ogR_559_1 hR]; rfl
theorem gr_559_2 {F : Nat → Option β} (hR : RA R) : (gR (mg (4562 + zn J) I J R) 559 5 2).bind F = F 562 := by rw [ogR_559_2 hR]; rfl
theorem gi_563 {k : Nat} {F : Int32 → Option β} : (gI (mg (4562 + zn J) I J R) 563 5 k).bind F = F (I 563 k) := by rw [ogI_563]; rfl
theorem gs_563 {k : Nat} {v : Int32} {F : xM → Option β} : (sI (mg (4562 + zn J) I J R) 563 5 k v).bind F = F (mg (4562 + zn J) (up I 563 k v) J R) := by rw [osI_563]; rfl
theorem gr_563_0 {F : Nat → Option β} (hR : RA R) : (gR (mg (4562 + zn J) I J R) 563 5 0).bind F = F 540 := by rw [ogR_563_0 hR]; rfl
theorem gr_563_2 {F : Nat → Option β} (hR : RA R) : (gR (mg (4562 + zn J) I J R) 563 5 2).bind F = F 566 := by rw [ogR_563_2 hR]; rfl
theorem gi_567 {k : Nat} {F : Int32 → Option β} : (gI (mg (4562 + zn J) I J R) 567 4 k).bind F = F (I 567 k) := by rw [ogI_567]; rfl
theorem gs_567 {k : Nat} {v : Int32} {F : xM → Option β} : (sI (mg (4562 + zn J) I J R) 567 4 k v).bind F = F (mg (4562 + zn J) (up I 567 k v) J R) := by rw [osI_567]; rfl
theorem gr_567_0 {F : Nat → Option β} (hR : RA R) : (gR (mg (4562 + zn J) I J R) 567 4 0).bind F = F 11 := by rw [ogR_567_0 hR]; rfl
theorem gr_567_1 {F : Nat → Option β} (hR : RA R) : (gR (mg (4562 + zn J) I J R) 567 4 1).bind F = F 1 := by rw [ogR_567_1 hR]; rfl
theorem gr_567_2 {F : Nat → Option β} (hR : RA R) : (gR (mg (4562 + zn J) I J R) 567 4 2).bind F = F 568 := by rw [ogR_567_2 hR]; rfl
theorem gr_567_5 {F : Nat → Option β} (hR : RA R) : (gR (mg (4562 + zn J) I J R) 567 4 5).bind F = F 569 := by rw [ogR_567_5 hR]; rfl
theorem gr_567_6 {F : Nat → Option β} (hR : RA R) : (gR (mg (4562 + zn J) I J R) 567 4 6).bind F = F 574 := by rw [ogR_567_6 hR]; rfl
theorem gr_567_7 {F : Nat → Option β} (hR : RA R) : (gR (mg (4562 + zn J) I J R) 567 4 7).bind F = F 575 := by rw [ogR_567_7 hR]; rfl
theorem gr_567_8 {F : Nat → Option β} (hR : RA R) : (gR (mg (4562 + zn J) I J R) 567 4 8).bind F = F 576 := by rw [ogR_567_8 hR]; rfl
theorem gr_567_9 {F : Nat → Option β} (hR : RA R) : (gR (mg (4562 + zn J) I J R) 567 4 9).bind F = F 577 := by rw [ogR_567_9 hR]; rfl
theorem gr_567_10 {F : Nat → Option β} (hR : RA R) : (gR (mg (4562 + zn J) I J R) 567 4 10).bind F = F 578 := by rw [ogR_567_10 hR]; rfl
theorem gr_567_11 {F : Nat → Option β} (hR : RA R) : (gR (mg (4562 + zn J) I J R) 567 4 11).bind F = F 579 := by rw [ogR_567_11 hR]; rfl
theorem gr_567_14 {F : Nat → Option β} (hR : RA R) : (gR (mg (4562 + zn J) I J R) 567 4 14).bind F = F 580 := by rw [ogR_567_14 hR]; rfl
theorem gr_567_15 {F : Nat → Option β} (hR : RA R) : (gR (mg (4562 + zn J) I J R) 567 4 15).bind F = F 581 := by rw [ogR_567_15 hR]; rfl
theorem gr_567_16 {F : Nat → Option β} (hR : RA R) : (gR (mg (4562 + zn J) I J R) 567 4 16).bind F = F 582 := by rw [ogR_567_16 hR]; rfl
theorem gr_567_17 {F : Nat → Option β} (hR : RA R) : (gR (mg (4562 + zn J) I J R) 567 4 17).bind F = F 583 := by rw [ogR_567_17 hR]; rfl
theorem gi_1784 {k : Nat} {F : Int32 → Option β} : (gI (mg (4562 + zn J) I J R) 1784 8 k).bind F = F (I 1784 k) := by rw [ogI_1784]; rfl
theorem gs_1784 {k : Nat} {v : Int32} {F : xM → Option β} : (sI (mg (4562 + zn J) I J R) 1784 8 k v).bind F = F (mg (4562 + zn J) (up I 1784 k v) J R) := by rw [osI_1784]; rfl
theorem gr_1784_0 {F : Nat → Option β} (hR : RA R) : (gR (mg (4562 + zn J) I J R) 1784 8 0).bind F = F 567 := by rw [ogR_1784_0 hR]; rfl
theorem gr_1784_1 {F : Nat → Option β} (hR : RA R) : (gR (mg (4562 + zn J) I J R) 1784 8 1).bind F = F 1 := by rw [ogR_1784_1 hR]; rfl
theorem gr_1784_2 {F : Nat → Option β} (hR : RA R) : (gR (mg (4562 + zn J) I J R) 1784 8 2).bind F = F 1785 := by rw [ogR_1784_2 hR]; rfl
theorem gr_1784_4 {F : Nat → Option β} (hR : RA R) : (gR (mg (4562 + zn J) I J R) 1784 8 4).bind F = F 1786 := by rw [ogR_1784_4 hR]; rfl
theorem gr_1784_5 {F : Nat → Option β} (hR : RA R) : (gR (mg (4562 + zn J) I J R) 1784 8 5).bind F = F 1791 := by rw [ogR_1784_5 hR]; rfl
theorem gr_1784_6 {F : Nat → Option β} (hR : RA R) : (gR (mg (4562 + zn J) I J R) 1784 8 6).bind F = F 1796 := by rw [ogR_1784_6 hR]; rfl
theorem gr_1784_7 {F : Nat → Option β} (hR : RA R) : (gR (mg (4562 + zn J) I J R) 1784 8 7).bind F = F 1801 := by rw [ogR_1784_7 hR]; rfl
theorem gi_2206 {k : Nat} {F : Int32 → Option β} : (gI (mg (4562 + zn J) I J R) 2206 7 k).bind F = F (I 2206 k) := by rw [ogI_2206]; rfl
theorem gs_2206 {k : Nat} {v : Int32} {F : xM → Option β} : (sI (mg (4562 + zn J) I J R) 2206 7 k v).bind F = F (mg (4562 + zn J) (up I 2206 k v) J R) := by rw [osI_2206]; rfl
theorem gr_2206_0 {F : Nat → Option β} (hR : RA R) : (gR (mg (4562 + zn J) I J R) 2206 7 0).bind F = F 11 := by rw [ogR_2206_0 hR]; rfl
theorem gr_2206_2 {F : Nat → Option β} (hR : RA R) : (gR (mg (4562 + zn J) I J R) 2206 7 2).bind F = F 2207 := by rw [ogR_2206_2 hR]; rfl
theorem ga_13 {k : Nat} {F : Int32 → Option β} (h : k < 48) : (aI (mg (4562 + zn J) I J R) 13 14 (Int32.ofNat (k))).bind F = F (I 13 k) := by rw [e_aI (a := 13) (by first | decide | omega) (show KK 13 = (14, 48) from rfl) h (by first | decide | omega)]; rfl
theorem gw_13 {k : Nat} {v : Int32} {F : xM → Option β} (h : k < 48) : (wI (mg (4562 + zn J) I J R) 13 (Int32.ofNat (k)) v).bind F = F (mg (4562 + zn J) (up I 13 k v) J R) := by rw [e_wI (a := 13) (by first | decide | omega) (show KK 13 = (14, 48) from rfl) h (by first | decide | omega)]; rfl
theorem ga_14 {k : Nat} {F : Int32 → Option β} (h : k < 48) : (aI (mg (4562 + zn J) I J R) 14 14 (Int32.ofNat (k))).bind F = F (I 14 k) := by rw [e_aI (a := 14) (by first | decide | omega) (show KK 14 = (14, 48) from rfl) h (by first | decide | omega)]; rfl
theorem gw_14 {k : Nat} {v : Int32} {F : xM → Option β} (h : k < 48) : (wI (mg (4562 + zn J) I J R) 14 (Int32.ofNat (k)) v).bind F = F (mg (4562 + zn J) (up I 14 k v) J R) := by rw [e_wI (a := 14) (by first | decide | omega) (show KK 14 = (14, 48) from rfl) h (by first | decide | omega)]; rfl
theorem ga_15 {k : Nat} {F : Int32 → Option β} (h : k < 48) : (aI (mg (4562 + zn J) I J R) 15 14 (Int32.ofNat (k))).bind F = F (I 15 k) := by rw [e_aI (a := 15) (by first | decide | omega) (show KK 15 = (14, 48) from rfl) h (by first | decide | omega)]; rfl
theorem gw_15 {k : Nat} {v : Int32} {F : xM → Option β} (h : k < 48) : (wI (mg (4562 + zn J) I J R) 15 (Int32.ofNat (k)) v).bind F = F (mg (4562 + zn J) (up I 15 k v) J R) := by rw [e_wI (a := 15) (by first | decide | omega) (show KK 15 = (14, 48) from rfl) h (by first | decide | omega)]; rfl
theorem ga_18 {k : Nat} {F : Int32 → Option β} (h : k < 26) : (aI (mg (4562 + zn J) I J R) 18 15 (Int32.ofNat (k))).bind F = F (I 18 k) := by rw [e_aI (a := 18) (by first | decide | omega) (show KK 18 = (15, 26) from rfl) h (by first | decide | omega)]; rfl
theorem gz_18 {k : Nat} {v : Int32} {F : xM → Option β} (h : k < 26) (hv : (v == 0 || v == 1) = true) : (wZ (mg (4562 + zn J) I J R) 18 (Int32.ofNat (k)) v).bind F = F (mg (4562 + zn J) (up I 18 k v) J R) := by rw [owZ_18, if_pos (by rw [hv, xvi_nat h (by first | decide | omega)]; rfl), i32_nat (by omega)]; rfl
theorem ga_46 {k : Nat} {F : Int32 → Option β} (h : k < 20) : (aI (mg (4562 + zn J) I J R) 46 14 (Int32.ofNat (k))).bind F = F (I 46 k) := by rw [e_aI (a := 46) (by first | decide | omega) (show KK 46 = (14, 20) from rfl) h (by first | decide | omega)]; rfl
theorem gw_46 {k : Nat} {v : Int32} {F : xM → Option β} (h : k < 20) : (wI (mg (4562 + zn J) I J R) 46 (Int32.ofNat (k)) v).bind F = F (mg (4562 + zn J) (up I 46 k v) J R) := by rw [e_wI (a := 46) (by first | decide | omega) (show KK 46 = (14, 20) from rfl) h (by first | decide | omega)]; rfl
theorem ga_47 {k : Nat} {F : Int32 → Option β} (h : k < 20) : (aI (mg (4562 + zn J) I J R) 47 14 (Int32.ofNat (k))).bind F = F (I 47 k) := by rw [e_aI (a := 47) (by first | decide | omega) (show KK 47 = (14, 20) from rfl) h (by first | decide | omega)]; rfl
theorem gw_47 {k : Nat} {v : Int32} {F : xM → Option β} (h : k < 20) : (wI (mg (4562 + zn J) I J R) 47 (Int32.ofNat (k)) v).bind F = F (mg (4562 + zn J) (up I 47 k v) J R) := by rw [e_wI (a := 47) (by first | decide | omega) (show KK 47 = (14, 20) from rfl) h (by first | decide | omega)]; rfl
theorem ga_541 {k : Nat} {F : Int32 → Option β} (h : k < 300) : (aI (mg (4562 + zn J) I J R) 541 14 (Int32.ofNat (k))).bind F = F (I 541 k) := by rw [e_aI (a := 541) (by first | decide | omega) (show KK 541 = (14, 300) from rfl) h (by first | decide | omega)]; rfl
theorem gw_541 {k : Nat} {v : Int32} {F : xM → Option β} (h : k < 300) : (wI (mg (4562 + zn J) I J R) 541 (Int32.ofNat (k)) v).bind F = F (mg (4562 + zn J) (up I 541 k v) J R) := by rw [e_wI (a := 541) (by first | decide | omega) (show KK 541 = (14, 300) from rfl) h (by first | decide | omega)]; rfl
theorem ga_542 {k : Nat} {F : Int32 → Option β} (h : k < 300) : (aI (mg (4562 + zn J) I J R) 542 14 (Int32.ofNat (k))).bind F = F (I 542 k) := by rw [e_aI (a := 542) (by first | decide | omega) (show KK 542 = (14, 300) from rfl) h (by first | decide | omega)]; rfl
theorem gw_542 {k : Nat} {v : Int32} {F : xM → Option β} (h : k < 300) : (wI (mg (4562 + zn J) I J R) 542 (Int32.ofNat (k)) v).bind F = F (mg (4562 + zn J) (up I 542 k v) J R) := by rw [e_wI (a := 542) (by first | decide | omega) (show KK 542 = (14, 300) from rfl) h (by first | decide | omega)]; rfl
theorem ga_543 {k : Nat} {F : Int32 → Option β} (h : k < 300) : (aI (mg (4562 + zn J) I J R) 543 14 (Int32.ofNat (k))).bind F = F (I 543 k) := by rw [e_aI (a := 543) (by first | decide | omega) (show KK 543 = (14, 300) from rfl) h (by first | decide | omega)]; rfl
theorem gw_543 {k : Nat} {v : Int32} {F : xM → Option β} (h : k < 300) : (wI (mg (4562 + zn J) I J R) 543 (Int32.ofNat (k)) v).bind F = F (mg (4562 + zn J) (up I 543 k v) J R) := by rw [e_wI (a := 543) (by first | decide | omega) (show KK 543 = (14, 300) from rfl) h (by first | decide | omega)]; rfl
theorem ga_544 {k : Nat} {F : Int32 → Option β} (h : k < 300) : (aI (mg (4562 + zn J) I J R) 544 15 (Int32.ofNat (k))).bind F = F (I 544 k) := by rw [e_aI (a := 544) (by first | decide | omega) (show KK 544 = (15, 300) from rfl) h (by first | decide | omega)]; rfl
theorem gz_544 {k : Nat} {v : Int32} {F : xM → Option β} (h : k < 300) (hv : (v == 0 || v == 1) = true) : (wZ (mg (4562 + zn J) I J R) 544 (Int32.ofNat (k)) v).bind F = F (mg (4562 + zn J) (up I 544 k v) J R) := by rw [owZ_544, if_pos (by rw [hv, xvi_nat h (by first | decide | omega)]; rfl), i32_nat (by omega)]; rfl
theorem ga_545 {k : Nat} {F : Int32 → Option β} (h : k < 300) : (aI (mg (4562 + zn J) I J R) 545 14 (Int32.ofNat (k))).bind F = F (I 545 k) := by rw [e_aI (a := 545) (by first | decide | omega) (show KK 545 = (14, 300) from rfl) h (by first | decide | omega)]; rfl
theorem gw_545 {k : Nat} {v : Int32} {F : xM → Option β} (h : k < 300) : (wI (mg (4562 + zn J) I J R) 545 (Int32.ofNat (k)) v).bind F = F (mg (4562 + zn J) (up I 545 k v) J R) := by rw [e_wI (a := 545) (by first | decide | omega) (show KK 545 = (14, 300) from rfl) h (by first | decide | omega)]; rfl
theorem ga_546 {k : Nat} {F : Int32 → Option β} (h : k < 300) : (aI (mg (4562 + zn J) I J R) 546 14 (Int32.ofNat (k))).bind F = F (I 546 k) := by rw [e_aI (a := 546) (by first | decide | omega) (show KK 546 = (14, 300) from rfl) h (by first | decide | omega)]; rfl
theorem gw_546 {k : Nat} {v : Int32} {F : xM → Option β} (h : k < 300) : (wI (mg (4562 + zn J) I J R) 546 (Int32.ofNat (k)) v).bind F = F (mg (4562 + zn J) (up I 546 k v) J R) := by rw [e_wI (a := 546) (by first | decide | omega) (show KK 546 = (14, 300) from rfl) h (by first | decide | omega)]; rfl
theorem ga_547 {k : Nat} {F : Int32 → Option β} (h : k < 300) : (aI (mg (4562 + zn J) I J R) 547 14 (Int32.ofNat (k))).bind F = F (I 547 k) := by rw [e_aI (a := 547) (by first | decide | omega) (show KK 547 = (14, 300) from rfl) h (by first | decide | omega)]; rfl
theorem gw_547 {k : Nat} {v : Int32} {F : xM → Option β} (h : k < 300) : (wI (mg (4562 + zn J) I J R) 547 (Int32.ofNat (k)) v).bind F = F (mg (4562 + zn J) (up I 547 k v) J R) := by rw [e_wI (a := 547) (by first | decide | omega) (show KK 547 = (14, 300) from rfl) h (by first | decide | omega)]; rfl
theorem ga_548 {k : Nat} {F : Int32 → Option β} (h : k < 300) : (aI (mg (4562 + zn J) I J R) 548 14 (Int32.ofNat (k))).bind F = F (I 548 k) := by rw [e_aI (a := 548) (by first | decide | omega) (show KK 548 = (14, 300) from rfl) h (by first | decide | omega)]; rfl
theorem gw_548 {k : Nat} {v : Int32} {F : xM → Option β} (h : k < 300) : (wI (mg (4562 + zn J) I J R) 548 (Int32.ofNat (k)) v).bind F = F (mg (4562 + zn J) (up I 548 k v) J R) := by rw [e_wI (a := 548) (by first | decide | omega) (show KK 548 = (14, 300) from rfl) h (by first | decide | omega)]; rfl
theorem ga_549 {k : Nat} {F : Int32 → Option β} (h : k < 300) : (aI (mg (4562 + zn J) I J R) 549 14 (Int32.ofNat (k))).bind F = F (I 549 k) := by rw [e_aI (a := 549) (by first | decide | omega) (show KK 549 = (14, 300) from rfl) h (by first | decide | omega)]; rfl
theorem gw_549 {k : Nat} {v : Int32} {F : xM → Option β} (h : k < 300) : (wI (mg (4562 + zn J) I J R) 549 (Int32.ofNat (k)) v).bind F = F (mg (4562 + zn J) (up I 549 k v) J R) := by rw [e_wI (a := 549) (by first | decide | omega) (show KK 549 = (14, 300) from rfl) h (by first | decide | omega)]; rfl
theorem ga_550 {k : Nat} {F : Int32 → Option β} (h : k < 300) : (aI (mg (4562 + zn J) I J R) 550 14 (Int32.ofNat (k))).bind F = F (I 550 k) := by rw [e_aI (a := 550) (by first | decide | omega) (show KK 550 = (14, 300) from rfl) h (by first | decide | omega)]; rfl
theorem gw_550 {k : Nat} {v : Int32} {F : xM → Option β} (h : k < 300) : (wI (mg (4562 + zn J) I J R) 550 (Int32.ofNat (k)) v).bind F = F (mg (4562 + zn J) (up I 550 k v) J R) := by rw [e_wI (a := 550) (by first | decide | omega) (show KK 550 = (14, 300) from rfl) h (by first | decide | omega)]; rfl
theorem ga_562 {k : Nat} {F : Int32 → Option β} (h : k < 1000) : (aI (mg (4562 + zn J) I J R) 562 13 (Int32.ofNat (k))).bind F = F (I 562 k) := by rw [e_aI (a := 562) (by first | decide | omega) (show KK 562 = (13, 1000) from rfl) h (by first | decide | omega)]; rfl
theorem gcw_562 {k : Nat} {v : Int32} {F : xM → Option β} (h : k < 1000) : (wC (mg (4562 + zn J) I J R) 562 (Int32.ofNat (k)) v).bind F = F (mg (4562 + zn J) (up I 562 k (vp_nar .char v)) J R) := by rw [owC_562, if_pos (xvi_nat h (by first | decide | omega)), i32_nat (by omega)]; rfl
theorem gcw_566 {k : Nat} {v : Int32} {F : xM → Option β} (h : k < 1000) : (wC (mg (4562 + zn J) I J R) 566 (Int32.ofNat (k)) v).bind F = F (mg (4562 + zn J) (up I 566 k (vp_nar .char v)) J R) := by rw [owC_566, if_pos (xvi_nat h (by first | decide | omega)), i32_nat (by omega)]; rfl
theorem ga_574 {k : Nat} {F : Int32 → Option β} (h : k < 480) : (aI (mg (4562 + zn J) I J R) 574 14 (Int32.ofNat (k))).bind F = F (I 574 k) := by rw [e_aI (a := 574) (by first | decide | omega) (show KK 574 = (14, 480) from rfl) h (by first | decide | omega)]; rfl
theorem gw_574 {k : Nat} {v : Int32} {F : xM → Option β} (h : k < 480) : (wI (mg (4562 + zn J) I J R) 574 (Int32.ofNat (k)) v).bind F = F (mg (4562 + zn J) (up I 574 k v) J R) := by rw [e_wI (a := 574) (by first | decide | omega) (show KK 574 = (14, 480) from rfl) h (by first | decide | omega)]; rfl
theorem ga_576 {k : Nat} {F : Int32 → Option β} (h : k < 480) : (aI (mg (4562 + zn J) I J R) 576 14 (Int32.ofNat (k))).bind F = F (I 576 k) := by rw [e_aI (a := 576) (by first | decide | omega) (show KK 576 = (14, 480) from rfl) h (by first | decide | omega)]; rfl
theorem gw_576 {k : Nat} {v : Int32} {F : xM → Option β} (h : k < 480) : (wI (mg (4562 + zn J) I J R) 576 (Int32.ofNat (k)) v).bind F = F (mg (4562 + zn J) (up I 576 k v) J R) := by rw [e_wI (a := 576) (by first | decide | omega) (show KK 576 = (14, 480) from rfl) h (by first | decide | omega)]; rfl
theorem ga_577 {k : Nat} {F : Int32 → Option β} (h : k < 480) : (aI (mg (4562 + zn J) I J R) 577 14 (Int32.ofNat (k))).bind F = F (I 577 k) := by rw [e_aI (a := 577) (by first | decide | omega) (show KK 577 = (14, 480) from rfl) h (by first | decide | omega)]; rfl
theorem gw_577 {k : Nat} {v : Int32} {F : xM → Option β} (h : k < 480) : (wI (mg (4562 + zn J) I J R) 577 (Int32.ofNat (k)) v).bind F = F (mg (4562 + zn J) (up I 577 k v) J R) := by rw [e_wI (a := 577) (by first | decide | omega) (show KK 577 = (14, 480) from rfl) h (by first | decide | omega)]; rfl
theorem ga_578 {k : Nat} {F : Int32 → Option β} (h : k < 480) : (aI (mg (4562 + zn J) I J R) 578 14 (Int32.ofNat (k))).bind F = F (I 578 k) := by rw [e_aI (a := 578) (by first | decide | omega) (show KK 578 = (14, 480) from rfl) h (by first | decide | omega)]; rfl
theorem gw_578 {k : Nat} {v : Int32} {F : xM → Option β} (h : k < 480) : (wI (mg (4562 + zn J) I J R) 578 (Int32.ofNat (k)) v).bind F = F (mg (4562 + zn J) (up I 578 k v) J R) := by rw [e_wI (a := 578) (by first | decide | omega) (show KK 578 = (14, 480) from rfl) h (by first | decide | omega)]; rfl
theorem ga_579 {k : Nat} {F : Int32 → Option β} (h : k < 480) : (aI (mg (4562 + zn J) I J R) 579 14 (Int32.ofNat (k))).bind F = F (I 579 k) := by rw [e_aI (a := 579) (by first | decide | omega) (show KK 579 = (14, 480) from rfl) h (by first | decide | omega)]; rfl
theorem gw_579 {k : Nat} {v : Int32} {F : xM → Option β} (h : k < 480) : (wI (mg (4562 + zn J) I J R) 579 (Int32.ofNat (k)) v).bind F = F (mg (4562 + zn J) (up I 579 k v) J R) := by rw [e_wI (a := 579) (by first | decide | omega) (show KK 579 = (14, 480) from rfl) h (by first | decide | omega)]; rfl
theorem ga_580 {k : Nat} {F : Int32 → Option β} (h : k < 240) : (aI (mg (4562 + zn J) I J R) 580 14 (Int32.ofNat (k))).bind F = F (I 580 k) := by rw [e_aI (a := 580) (by first | decide | omega) (show KK 580 = (14, 240) from rfl) h (by first | decide | omega)]; rfl
theorem gw_580 {k : Nat} {v : Int32} {F : xM → Option β} (h : k < 240) : (wI (mg (4562 + zn J) I J R) 580 (Int32.ofNat (k)) v).bind F = F (mg (4562 + zn J) (up I 580 k v) J R) := by rw [e_wI (a := 580) (by first | decide | omega) (show KK 580 = (14, 240) from rfl) h (by first | decide | omega)]; rfl
theorem ga_581 {k : Nat} {F : Int32 → Option β} (h : k < 240) : (aI (mg (4562 + zn J) I J R) 581 14 (Int32.ofNat (k))).bind F = F (I 581 k) := by rw [e_aI (a := 581) (by first | decide | omega) (show KK 581 = (14, 240) from rfl) h (by first | decide | omega)]; rfl
theorem gw_581 {k : Nat} {v : Int32} {F : xM → Option β} (h : k < 240) : (wI (mg (4562 + zn J) I J R) 581 (Int32.ofNat (k)) v).bind F = F (mg (4562 + zn J) (up I 581 k v) J R) := by rw [e_wI (a := 581) (by first | decide | omega) (show KK 581 = (14, 240) from rfl) h (by first | decide | omega)]; rfl
theorem ga_582 {k : Nat} {F : Int32 → Option β} (h : k < 240) : (aI (mg (4562 + zn J) I J R) 582 14 (Int32.ofNat (k))).bind F = F (I 582 k) := by rw [e_aI (a := 582) (by first | decide | omega) (show KK 582 = (14, 240) from rfl) h (by first | decide | omega)]; rfl
theorem gw_582 {k : Nat} {v : Int32} {F : xM → Option β} (h : k < 240) : (wI (mg (4562 + zn J) I J R) 582 (Int32.ofNat (k)) v).bind F = F (mg (4562 + zn J) (up I 582 k v) J R) := by rw [e_wI (a := 582) (by first | decide | omega) (show KK 582 = (14, 240) from rfl) h (by first | decide | omega)]; rfl
theorem ga_583 {k : Nat} {F : Int32 → Option β} (h : k < 240) : (aI (mg (4562 + zn J) I J R) 583 14 (Int32.ofNat (k))).bind F = F (I 583 k) := by rw [e_aI (a := 583) (by first | decide | omega) (show KK 583 = (14, 240) from rfl) h (by first | decide | omega)]; rfl
theorem gw_583 {k : Nat} {v : Int32} {F : xM → Option β} (h : k < 240) : (wI (mg (4562 + zn J) I J R) 583 (Int32.ofNat (k)) v).bind F = F (mg (4562 + zn J) (up I 583 k v) J R) := by rw [e_wI (a := 583) (by first | decide | omega) (show KK 583 = (14, 240) from rfl) h (by first | decide | omega)]; rfl
theorem gw_4559 {k : Nat} {v : Int32} {F : xM → Option β} (h : k < 80) : (wI (mg (4562 + zn J) I J R) 4559 (Int32.ofNat (k)) v).bind F = F (mg (4562 + zn J) (up I 4559 k v) J R) := by rw [e_wI (a := 4559) (by first | decide | omega) (show KK 4559 = (14, 80) from rfl) h (by first | decide | omega)]; rfl
theorem gw_4560 {k : Nat} {v : Int32} {F : xM → Option β} (h : k < 80) : (wI (mg (4562 + zn J) I J R) 4560 (Int32.ofNat (k)) v).bind F = F (mg (4562 + zn J) (up I 4560 k v) J R) := by rw [e_wI (a := 4560) (by first | decide | omega) (show KK 4560 = (14, 80) from rfl) h (by first | decide | omega)]; rfl
end GB
