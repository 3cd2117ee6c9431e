/-! each access to an object that is alone of its kind, with what follows -/
section GB
variable {I : Nat → Nat → Int32} {J : Nat → Nat → Int64} {R : Nat → Nat → Option Nat} {β : Type}
theorem gi_0 {k : Nat} {F : Int32 → Option β} : (gI (mg 4625 I J R) 0 11 k).bind F = F (I 0 k) := by rw [ogI_0]; rfl
theorem gs_0 {k : Nat} {v : Int32} {F : xM → Option β} : (sI (mg 4625 I J R) 0 11 k v).bind F = F (mg 4625 (up I 0 k v) J R) := by rw [osI_0]; rfl
theorem gr_0_0 {F : Nat → Option β} (hR : RA R) : (gR (mg 4625 I J R) 0 11 0).bind F = F 10 := by rw [ogR_0_0 hR]; rfl
theorem gr_0_2 {F : Nat → Option β} (hR : RA R) : (gR (mg 4625 I J R) 0 11 2).bind F = F 11 := by rw [ogR_0_2 hR]; rfl
theorem gr_0_3 {F : Nat → Option β} (hR : RA R) : (gR (mg 4625 I J R) 0 11 3).bind F = F 540 := by rw [ogR_0_3 hR]; rfl
theorem gr_0_4 {F : Nat → Option β} (hR : RA R) : (gR (mg 4625 I J R) 0 11 4).bind F = F 559 := by rw [ogR_0_4 hR]; rfl
theorem gr_0_5 {F : Nat → Option β} (hR : RA R) : (gR (mg 4625 I J R) 0 11 5).bind F = F 563 := by rw [ogR_0_5 hR]; rfl
theorem gr_0_6 {F : Nat → Option β} (hR : RA R) : (gR (mg 4625 I J R) 0 11 6).bind F = F 567 := by rw [ogR_0_6 hR]; rfl
theorem gr_0_7 {F : Nat → Option β} (hR : RA R) : (gR (mg 4625 I J R) 0 11 7).bind F = F 1784 := by rw [ogR_0_7 hR]; rfl
theorem gr_0_8 {F : Nat → Option β} (hR : RA R) : (gR (mg 4625 I J R) 0 11 8).bind F = F 2206 := by rw [ogR_0_8 hR]; rfl
theorem gr_0_9 {F : Nat → Option β} (hR : RA R) : (gR (mg 4625 I J R) 0 11 9).bind F = F 2215 := by rw [ogR_0_9 hR]; rfl
theorem gr_0_10 {F : Nat → Option β} (hR : RA R) : (gR (mg 4625 I J R) 0 11 10).bind F = F 4541 := by rw [ogR_0_10 hR]; rfl
theorem gr_0_11 {F : Nat → Option β} (hR : RA R) : (gR (mg 4625 I J R) 0 11 11).bind F = F 4546 := by rw [ogR_0_11 hR]; rfl
theorem gr_0_12 {F : Nat → Option β} (hR : RA R) : (gR (mg 4625 I J R) 0 11 12).bind F = F 4551 := by rw [ogR_0_12 hR]; rfl
theorem gr_0_13 {F : Nat → Option β} (hR : RA R) : (gR (mg 4625 I J R) 0 11 13).bind F = F 4559 := by rw [ogR_0_13 hR]; rfl
theorem gr_0_14 {F : Nat → Option β} (hR : RA R) : (gR (mg 4625 I J R) 0 11 14).bind F = F 4560 := by rw [ogR_0_14 hR]; rfl
theorem gi_1 {k : Nat} {F : Int32 → Option β} : (gI (mg 4625 I J R) 1 0 k).bind F = F (I 1 k) := by rw [ogI_1]; rfl
theorem gs_1 {k : Nat} {v : Int32} {F : xM → Option β} : (sI (mg 4625 I J R) 1 0 k v).bind F = F (mg 4625 (up I 1 k v) J R) := by rw [osI_1]; rfl
theorem gr_1_0 {F : Nat → Option β} (hR : RA R) : (gR (mg 4625 I J R) 1 0 0).bind F = F 2 := by rw [ogR_1_0 hR]; rfl
theorem gr_1_1 {F : Nat → Option β} (hR : RA R) : (gR (mg 4625 I J R) 1 0 1).bind F = F 4 := by rw [ogR_1_1 hR]; rfl
theorem gr_1_2 {F : Nat → Option β} (hR : RA R) : (gR (mg 4625 I J R) 1 0 2).bind F = F 6 := by rw [ogR_1_2 hR]; rfl
theorem gr_1_3 {F : Nat → Option β} (hR : RA R) : (gR (mg 4625 I J R) 1 0 3).bind F = F 8 := by rw [ogR_1_3 hR]; rfl
theorem gi_11 {k : Nat} {F : Int32 → Option β} : (gI (mg 4625 I J R) 11 1 k).bind F = F (I 11 k) := by rw [ogI_11]; rfl
theorem gs_11 {k : Nat} {v : Int32} {F : xM → Option β} : (sI (mg 4625 I J R) 11 1 k v).bind F = F (mg 4625 (up I 11 k v) J R) := by rw [osI_11]; rfl
theorem gr_11_0 {F : Nat → Option β} (hR : RA R) : (gR (mg 4625 I J R) 11 1 0).bind F = F 12 := by rw [ogR_11_0 hR]; rfl
theorem gr_11_1 {F : Nat → Option β} (hR : RA R) : (gR (mg 4625 I J R) 11 1 1).bind F = F 13 := by rw [ogR_11_1 hR]; rfl
theorem gr_11_2 {F : Nat → Option β} (hR : RA R) : (gR (mg 4625 I J R) 11 1 2).bind F = F 14 := by rw [ogR_11_2 hR]; rfl
theorem gr_11_3 {F : Nat → Option β} (hR : RA R) : (gR (mg 4625 I J R) 11 1 3).bind F = F 15 := by rw [ogR_11_3 hR]; rfl
theorem gr_11_4 {F : Nat → Option β} (hR : RA R) : (gR (mg 4625 I J R) 11 1 4).bind F = F 16 := by rw [ogR_11_4 hR]; rfl
theorem gr_11_6 {F : Nat → Option β} (hR : RA R) : (gR (mg 4625 I J R) 11 1 6).bind F = F 17 := by rw [ogR_11_6 hR]; rfl
theorem gr_11_7 {F : Nat → Option β} (hR : RA R) : (gR (mg 4625 I J R) 11 1 7).bind F = F 18 := by rw [ogR_11_7 hR]; rfl
theorem gr_11_8 {F : Nat → Option β} (hR : RA R) : (gR (mg 4625 I J R) 11 1 8).bind F = F 19 := by rw [ogR_11_8 hR]; rfl
theorem gr_11_9 {F : Nat → Option β} (hR : RA R) : (gR (mg 4625 I J R) 11 1 9).bind F = F 46 := by rw [ogR_11_9 hR]; rfl
theorem gr_11_10 {F : Nat → Option β} (hR : RA R) : (gR (mg 4625 I J R) 11 1 10).bind F = F 47 := by rw [ogR_11_10 hR]; rfl
theorem gr_11_11 {F : Nat → Option β} (hR : RA R) : (gR (mg 4625 I J R) 11 1 11).bind F = F 48 := by rw [ogR_11_11 hR]; rfl
theorem gr_11_12 {F : Nat → Option β} (hR : RA R) : (gR (mg 4625 I J R) 11 1 12).bind F = F 69 := by rw [ogR_11_12 hR]; rfl
theorem gi_540 {k : Nat} {F : Int32 → Option β} : (gI (mg 4625 I J R) 540 6 k).bind F = F (I 540 k) := by rw [ogI_540]; rfl
theorem gs_540 {k : Nat} {v : Int32} {F : xM → Option β} : (sI (mg 4625 I J R) 540 6 k v).bind F = F (mg 4625 (up I 540 k v) J R) := by rw [osI_540]; rfl
theorem gr_540_0 {F : Nat → Option β} (hR : RA R) : (gR (mg 4625 I J R) 540 6 0).bind F = F 11 := by rw [ogR_540_0 hR]; rfl
theorem gr_540_1 {F : Nat → Option β} (hR : RA R) : (gR (mg 4625 I J R) 540 6 1).bind F = F 541 := by rw [ogR_540_1 hR]; rfl
theorem gr_540_2 {F : Nat → Option β} (hR : RA R) : (gR (mg 4625 I J R) 540 6 2).bind F = F 542 := by rw [ogR_540_2 hR]; rfl
theorem gr_540_3 {F : Nat → Option β} (hR : RA R) : (gR (mg 4625 I J R) 540 6 3).bind F = F 543 := by rw [ogR_540_3 hR]; rfl
theorem gr_540_4 {F : Nat → Option β} (hR : RA R) : (gR (mg 4625 I J R) 540 6 4).bind F = F 544 := by rw [ogR_540_4 hR]; rfl
theorem gr_540_9 {F : Nat → Option β} (hR : RA R) : (gR (mg 4625 I J R) 540 6 9).bind F = F 545 := by rw [ogR_540_9 hR]; rfl
theorem gr_540_10 {F : Nat → Option β} (hR : RA R) : (gR (mg 4625 I J R) 540 6 10).bind F = F 546 := by rw [ogR_540_10 hR]; rfl
theorem gr_540_11 {F : Nat → Option β} (hR : RA R) : (gR (mg 4625 I J R) 540 6 11).bind F = F 547 := by rw [ogR_540_11 hR]; rfl
theorem gr_540_12 {F : Nat → Option β} (hR : RA R) : (gR (mg 4625 I J R) 540 6 12).bind F = F 548 := by rw [ogR_540_12 hR]; rfl
theorem gr_540_13 {F : Nat → Option β} (hR : RA R) : (gR (mg 4625 I J R) 540 6 13).bind F = F 549 := by rw [ogR_540_13 hR]; rfl
theorem gr_540_15 {F : Nat → Option β} (hR : RA R) : (gR (mg 4625 I J R) 540 6 15).bind F = F 550 := by rw [ogR_540_15 hR]; rfl
theorem gr_540_17 {F : Nat → Option β} (hR : RA R) : (gR (mg 4625 I J R) 540 6 17).bind F = F 551 := by rw [ogR_540_17 hR]; rfl
theorem gi_559 {k : Nat} {F : Int32 → Option β} : (gI (mg 4625 I J R) 559 5 k).bind F = F (I 559 k) := by rw [ogI_559]; rfl
theorem gs_559 {k : Nat} {v : Int32} {F : xM → Option β} : (sI (mg 4625 I J R) 559 5 k v).bind F = F (mg 4625 (up I 559 k v) J R) := by rw [osI_559]; rfl
theorem gr_559_0 {F : Nat → Option β} (hR : RA R) : (gR (mg 4625 I J R) 559 5 0).bind F = F 540 := by rw [ogR_559_0 hR]; rfl
theorem gr_559_1 {F : Nat → Option β} (hR : RA R) : (gR (mg 4625 I J R) 559 5 1).bind F = F 560 := by rw [ogR_559_1 hR]; rfl
theorem gr_559_2 {F : Nat → Option β} (hR : RA R) : (gR (mg 4625 I J R) 559 5 2).bind F = F 562 := by rw [ogR_559_2 hR]; rfl
theorem gi_563 {k : Nat} {F : Int32 → Option β} : (gI (mg 4625 I J R) 563 5 k).bind F = F (I 563 k) := by rw [ogI_563]; rfl
theorem gs_563 {k : Nat} {v : Int32} {F : xM → Option β} : (sI (mg 4625 I J R) 563 5 k v).bind F = F (mg 4625 (up I 563 k v) J R) := by rw [osI_563]; rfl
theorem gr_563_0 {F : Nat → Option β} (hR : RA R) : (gR (mg 4625 I J R) 563 5 0).bind F = F 540 := by rw [ogR_563_0 hR]; rfl
theorem gr_563_1 {F : Nat → Option β} (hR : RA R) : (gR (mg 4625 I J R) 563 5 1).bind F = F 564 := by rw [ogR_563_1 hR]; rfl
theorem gr_563_2 {F : Nat → Option β} (hR : RA R) : (gR (mg 4625 I J R) 563 5 2).bind F = F 566 := by rw [ogR_563_2 hR]; rfl
theorem gi_567 {k : Nat} {F : Int32 → Option β} : (gI (mg 4625 I J R) 567 4 k).bind F = F (I 567 k) := by rw [ogI_567]; rfl
theorem gs_567 {k : Nat} {v : Int32} {F : xM → Option β} : (sI (mg 4625 I J R) 567 4 k v).bind F = F (mg 4625 (up I 567 k v) J R) := by rw [osI_567]; rfl
theorem gr_567_0 {F : Nat → Option β} (hR : RA R) : (gR (mg 4625 I J R) 567 4 0).bind F = F 11 := by rw [ogR_567_0 hR]; rfl
theorem gr_567_1 {F : Nat → Option β} (hR : RA R) : (gR (mg 4625 I J R) 567 4 1).bind F = F 1 := by rw [ogR_567_1 hR]; rfl
theorem gr_567_2 {F : Nat → Option β} (hR : RA R) : (gR (mg 4625 I J R) 567 4 2).bind F = F 568 := by rw [ogR_567_2 hR]; rfl
theorem gr_567_5 {F : Nat → Option β} (hR : RA R) : (gR (mg 4625 I J R) 567 4 5).bind F = F 569 := by rw [ogR_567_5 hR]; rfl
theorem gr_567_6 {F : Nat → Option β} (hR : RA R) : (gR (mg 4625 I J R) 567 4 6).bind F = F 574 := by rw [ogR_567_6 hR]; rfl
theorem gr_567_7 {F : Nat → Option β} (hR : RA R) : (gR (mg 4625 I J R) 567 4 7).bind F = F 575 := by rw [ogR_567_7 hR]; rfl
theorem gr_567_8 {F : Nat → Option β} (hR : RA R) : (gR (mg 4625 I J R) 567 4 8).bind F = F 576 := by rw [ogR_567_8 hR]; rfl
theorem gr_567_9 {F : Nat → Option β} (hR : RA R) : (gR (mg 4625 I J R) 567 4 9).bind F = F 577 := by rw [ogR_567_9 hR]; rfl
theorem gr_567_10 {F : Nat → Option β} (hR : RA R) : (gR (mg 4625 I J R) 567 4 10).bind F = F 578 := by rw [ogR_567_10 hR]; rfl
theorem gr_567_11 {F : Nat → Option β} (hR : RA R) : (gR (mg 4625 I J R) 567 4 11).bind F = F 579 := by rw [ogR_567_11 hR]; rfl
theorem gr_567_14 {F : Nat → Option β} (hR : RA R) : (gR (mg 4625 I J R) 567 4 14).bind F = F 580 := by rw [ogR_567_14 hR]; rfl
theorem gr_567_15 {F : Nat → Option β} (hR : RA R) : (gR (mg 4625 I J R) 567 4 15).bind F = F 581 := by rw [ogR_567_15 hR]; rfl
theorem gr_567_16 {F : Nat → Option β} (hR : RA R) : (gR (mg 4625 I J R) 567 4 16).bind F = F 582 := by rw [ogR_567_16 hR]; rfl
theorem gr_567_17 {F : Nat → Option β} (hR : RA R) : (gR (mg 4625 I J R) 567 4 17).bind F = F 583 := by rw [ogR_567_17 hR]; rfl
theorem gi_1784 {k : Nat} {F : Int32 → Option β} : (gI (mg 4625 I J R) 1784 8 k).bind F = F (I 1784 k) := by rw [ogI_1784]; rfl
theorem gs_1784 {k : Nat} {v : Int32} {F : xM → Option β} : (sI (mg 4625 I J R) 1784 8 k v).bind F = F (mg 4625 (up I 1784 k v) J R) := by rw [osI_1784]; rfl
theorem gr_1784_0 {F : Nat → Option β} (hR : RA R) : (gR (mg 4625 I J R) 1784 8 0).bind F = F 567 := by rw [ogR_1784_0 hR]; rfl
theorem gr_1784_1 {F : Nat → Option β} (hR : RA R) : (gR (mg 4625 I J R) 1784 8 1).bind F = F 1 := by rw [ogR_1784_1 hR]; rfl
theorem gr_1784_2 {F : Nat → Option β} (hR : RA R) : (gR (mg 4625 I J R) 1784 8 2).bind F = F 1785 := by rw [ogR_1784_2 hR]; rfl
theorem gr_1784_4 {F : Nat → Option β} (hR : RA R) : (gR (mg 4625 I J R) 1784 8 4).bind F = F 1786 := by rw [ogR_1784_4 hR]; rfl
theorem gr_1784_5 {F : Nat → Option β} (hR : RA R) : (gR (mg 4625 I J R) 1784 8 5).bind F = F 1791 := by rw [ogR_1784_5 hR]; rfl
theorem gr_1784_6 {F : Nat → Option β} (hR : RA R) : (gR (mg 4625 I J R) 1784 8 6).bind F = F 1796 := by rw [ogR_1784_6 hR]; rfl
theorem gr_1784_7 {F : Nat → Option β} (hR : RA R) : (gR (mg 4625 I J R) 1784 8 7).bind F = F 1801 := by rw [ogR_1784_7 hR]; rfl
theorem gi_2206 {k : Nat} {F : Int32 → Option β} : (gI (mg 4625 I J R) 2206 7 k).bind F = F (I 2206 k) := by rw [ogI_2206]; rfl
theorem gs_2206 {k : Nat} {v : Int32} {F : xM → Option β} : (sI (mg 4625 I J R) 2206 7 k v).bind F = F (mg 4625 (up I 2206 k v) J R) := by rw [osI_2206]; rfl
theorem gr_2206_0 {F : Nat → Option β} (hR : RA R) : (gR (mg 4625 I J R) 2206 7 0).bind F = F 11 := by rw [ogR_2206_0 hR]; rfl
theorem gr_2206_2 {F : Nat → Option β} (hR : RA R) : (gR (mg 4625 I J R) 2206 7 2).bind F = F 2207 := by rw [ogR_2206_2 hR]; rfl
theorem gi_2215 {k : Nat} {F : Int32 → Option β} : (gI (mg 4625 I J R) 2215 3 k).bind F = F (I 2215 k) := by rw [ogI_2215]; rfl
theorem gs_2215 {k : Nat} {v : Int32} {F : xM → Option β} : (sI (mg 4625 I J R) 2215 3 k v).bind F = F (mg 4625 (up I 2215 k v) J R) := by rw [osI_2215]; rfl
theorem gr_2215_0 {F : Nat → Option β} (hR : RA R) : (gR (mg 4625 I J R) 2215 3 0).bind F = F 11 := by rw [ogR_2215_0 hR]; rfl
theorem gr_2215_1 {F : Nat → Option β} (hR : RA R) : (gR (mg 4625 I J R) 2215 3 1).bind F = F 1 := by rw [ogR_2215_1 hR]; rfl
theorem gr_2215_2 {F : Nat → Option β} (hR : RA R) : (gR (mg 4625 I J R) 2215 3 2).bind F = F 2216 := by rw [ogR_2215_2 hR]; rfl
theorem gr_2215_3 {F : Nat → Option β} (hR : RA R) : (gR (mg 4625 I J R) 2215 3 3).bind F = F 2217 := by rw [ogR_2215_3 hR]; rfl
theorem gr_2215_5 {F : Nat → Option β} (hR : RA R) : (gR (mg 4625 I J R) 2215 3 5).bind F = F 2218 := by rw [ogR_2215_5 hR]; rfl
theorem gr_2215_6 {F : Nat → Option β} (hR : RA R) : (gR (mg 4625 I J R) 2215 3 6).bind F = F 2219 := by rw [ogR_2215_6 hR]; rfl
theorem gr_2215_7 {F : Nat → Option β} (hR : RA R) : (gR (mg 4625 I J R) 2215 3 7).bind F = F 2220 := by rw [ogR_2215_7 hR]; rfl
theorem gr_2215_8 {F : Nat → Option β} (hR : RA R) : (gR (mg 4625 I J R) 2215 3 8).bind F = F 2225 := by rw [ogR_2215_8 hR]; rfl
theorem gr_2215_9 {F : Nat → Option β} (hR : RA R) : (gR (mg 4625 I J R) 2215 3 9).bind F = F 2230 := by rw [ogR_2215_9 hR]; rfl
theorem gr_2215_10 {F : Nat → Option β} (hR : RA R) : (gR (mg 4625 I J R) 2215 3 10).bind F = F 2231 := by rw [ogR_2215_10 hR]; rfl
theorem gr_2215_11 {F : Nat → Option β} (hR : RA R) : (gR (mg 4625 I J R) 2215 3 11).bind F = F 2236 := by rw [ogR_2215_11 hR]; rfl
theorem gr_2215_12 {F : Nat → Option β} (hR : RA R) : (gR (mg 4625 I J R) 2215 3 12).bind F = F 2241 := by rw [ogR_2215_12 hR]; rfl
theorem gi_4541 {k : Nat} {F : Int32 → Option β} : (gI (mg 4625 I J R) 4541 2 k).bind F = F (I 4541 k) := by rw [ogI_4541]; rfl
theorem gs_4541 {k : Nat} {v : Int32} {F : xM → Option β} : (sI (mg 4625 I J R) 4541 2 k v).bind F = F (mg 4625 (up I 4541 k v) J R) := by rw [osI_4541]; rfl
theorem gr_4541_0 {F : Nat → Option β} (hR : RA R) : (gR (mg 4625 I J R) 4541 2 0).bind F = F 4542 := by rw [ogR_4541_0 hR]; rfl
theorem gr_4541_1 {F : Nat → Option β} (hR : RA R) : (gR (mg 4625 I J R) 4541 2 1).bind F = F 4544 := by rw [ogR_4541_1 hR]; rfl
theorem gi_4546 {k : Nat} {F : Int32 → Option β} : (gI (mg 4625 I J R) 4546 2 k).bind F = F (I 4546 k) := by rw [ogI_4546]; rfl
theorem gs_4546 {k : Nat} {v : Int32} {F : xM → Option β} : (sI (mg 4625 I J R) 4546 2 k v).bind F = F (mg 4625 (up I 4546 k v) J R) := by rw [osI_4546]; rfl
theorem gr_4546_0 {F : Nat → Option β} (hR : RA R) : (gR (mg 4625 I J R) 4546 2 0).bind F = F 4547 := by rw [ogR_4546_0 hR]; rfl
theorem gr_4546_1 {F : Nat → Option β} (hR : RA R) : (gR (mg 4625 I J R) 4546 2 1).bind F = F 4549 := by rw [ogR_4546_1 hR]; rfl
theorem gi_4551 {k : Nat} {F : Int32 → Option β} : (gI (mg 4625 I J R) 4551 9 k).bind F = F (I 4551 k) := by rw [ogI_4551]; rfl
theorem gs_4551 {k : Nat} {v : Int32} {F : xM → Option β} : (sI (mg 4625 I J R) 4551 9 k v).bind F = F (mg 4625 (up I 4551 k v) J R) := by rw [osI_4551]; rfl
theorem gr_4551_0 {F : Nat → Option β} (hR : RA R) : (gR (mg 4625 I J R) 4551 9 0).bind F = F 4552 := by rw [ogR_4551_0 hR]; rfl
theorem gr_4551_1 {F : Nat → Option β} (hR : RA R) : (gR (mg 4625 I J R) 4551 9 1).bind F = F 4553 := by rw [ogR_4551_1 hR]; rfl
theorem gr_4551_2 {F : Nat → Option β} (hR : RA R) : (gR (mg 4625 I J R) 4551 9 2).bind F = F 4554 := by rw [ogR_4551_2 hR]; rfl
theorem gr_4551_3 {F : Nat → Option β} (hR : RA R) : (gR (mg 4625 I J R) 4551 9 3).bind F = F 4555 := by rw [ogR_4551_3 hR]; rfl
theorem gr_4551_4 {F : Nat → Option β} (hR : RA R) : (gR (mg 4625 I J R) 4551 9 4).bind F = F 4556 := by rw [ogR_4551_4 hR]; rfl
theorem gr_4551_5 {F : Nat → Option β} (hR : RA R) : (gR (mg 4625 I J R) 4551 9 5).bind F = F 4557 := by rw [ogR_4551_5 hR]; rfl
theorem gr_4551_6 {F : Nat → Option β} (hR : RA R) : (gR (mg 4625 I J R) 4551 9 6).bind F = F 4558 := by rw [ogR_4551_6 hR]; rfl
theorem gi_551 {k : Nat} {F : Int32 → Option β} : (gI (mg 4625 I J R) 551 9 k).bind F = F (I 551 k) := by rw [ogI_551]; rfl
theorem gs_551 {k : Nat} {v : Int32} {F : xM → Option β} : (sI (mg 4625 I J R) 551 9 k v).bind F = F (mg 4625 (up I 551 k v) J R) := by rw [osI_551]; rfl
theorem gr_551_0 {F : Nat → Option β} (hR : RA R) : (gR (mg 4625 I J R) 551 9 0).bind F = F 552 := by rw [ogR_551_0 hR]; rfl
theorem gr_551_1 {F : Nat → Option β} (hR : RA R) : (gR (mg 4625 I J R) 551 9 1).bind F = F 553 := by rw [ogR_551_1 hR]; rfl
theorem gr_551_2 {F : Nat → Option β} (hR : RA R) : (gR (mg 4625 I J R) 551 9 2).bind F = F 554 := by rw [ogR_551_2 hR]; rfl
theorem gr_551_3 {F : Nat → Option β} (hR : RA R) : (gR (mg 4625 I J R) 551 9 3).bind F = F 555 := by rw [ogR_551_3 hR]; rfl
theorem gr_551_4 {F : Nat → Option β} (hR : RA R) : (gR (mg 4625 I J R) 551 9 4).bind F = F 556 := by rw [ogR_551_4 hR]; rfl
theorem gr_551_5 {F : Nat → Option β} (hR : RA R) : (gR (mg 4625 I J R) 551 9 5).bind F = F 557 := by rw [ogR_551_5 hR]; rfl
theorem gr_551_6 {F : Nat → Option β} (hR : RA R) : (gR (mg 4625 I J R) 551 9 6).bind F = F 558 := by rw [ogR_551_6 hR]; rfl
theorem gi_2207 {k : Nat} {F : Int32 → Option β} : (gI (mg 4625 I J R) 2207 9 k).bind F = F (I 2207 k) := by rw [ogI_2207]; rfl
theorem gs_2207 {k : Nat} {v : Int32} {F : xM → Option β} : (sI (mg 4625 I J R) 2207 9 k v).bind F = F (mg 4625 (up I 2207 k v) J R) := by rw [osI_2207]; rfl
theorem gr_2207_0 {F : Nat → Option β} (hR : RA R) : (gR (mg 4625 I J R) 2207 9 0).bind F = F 2208 := by rw [ogR_2207_0 hR]; rfl
theorem gr_2207_1 {F : Nat → Option β} (hR : RA R) : (gR (mg 4625 I J R) 2207 9 1).bind F = F 2209 := by rw [ogR_2207_1 hR]; rfl
theorem gr_2207_2 {F : Nat → Option β} (hR : RA R) : (gR (mg 4625 I J R) 2207 9 2).bind F = F 2210 := by rw [ogR_2207_2 hR]; rfl
theorem gr_2207_3 {F : Nat → Option β} (hR : RA R) : (gR (mg 4625 I J R) 2207 9 3).bind F = F 2211 := by rw [ogR_2207_3 hR]; rfl
theorem gr_2207_4 {F : Nat → Option β} (hR : RA R) : (gR (mg 4625 I J R) 2207 9 4).bind F = F 2212 := by rw [ogR_2207_4 hR]; rfl
theorem gr_2207_5 {F : Nat → Option β} (hR : RA R) : (gR (mg 4625 I J R) 2207 9 5).bind F = F 2213 := by rw [ogR_2207_5 hR]; rfl
theorem gr_2207_6 {F : Nat → Option β} (hR : RA R) : (gR (mg 4625 I J R) 2207 9 6).bind F = F 2214 := by rw [ogR_2207_6 hR]; rfl
theorem gi_4561 {k : Nat} {F : Int32 → Option β} : (gI (mg 4625 I J R) 4561 12 k).bind F = F (I 4561 k) := by rw [ogI_4561]; rfl
theorem gs_4561 {k : Nat} {v : Int32} {F : xM → Option β} : (sI (mg 4625 I J R) 4561 12 k v).bind F = F (mg 4625 (up I 4561 k v) J R) := by rw [osI_4561]; rfl
theorem gr_4561_1 {F : Nat → Option β} (hR : RA R) : (gR (mg 4625 I J R) 4561 12 1).bind F = F 4562 := by rw [ogR_4561_1 hR]; rfl
theorem gr_4561_2 {F : Nat → Option β} (hR : RA R) : (gR (mg 4625 I J R) 4561 12 2).bind F = F 4563 := by rw [ogR_4561_2 hR]; rfl
theorem gr_4561_3 {F : Nat → Option β} (hR : RA R) : (gR (mg 4625 I J R) 4561 12 3).bind F = F 4564 := by rw [ogR_4561_3 hR]; rfl
theorem gr_4561_4 {F : Nat → Option β} (hR : RA R) : (gR (mg 4625 I J R) 4561 12 4).bind F = F 4565 := by rw [ogR_4561_4 hR]; rfl
theorem gr_4561_5 {F : Nat → Option β} (hR : RA R) : (gR (mg 4625 I J R) 4561 12 5).bind F = F 4566 := by rw [ogR_4561_5 hR]; rfl
theorem gr_4561_6 {F : Nat → Option β} (hR : RA R) : (gR (mg 4625 I J R) 4561 12 6).bind F = F 4567 := by rw [ogR_4561_6 hR]; rfl
theorem gr_4561_7 {F : Nat → Option β} (hR : RA R) : (gR (mg 4625 I J R) 4561 12 7).bind F = F 4568 := by rw [ogR_4561_7 hR]; rfl
theorem gr_4561_8 {F : Nat → Option β} (hR : RA R) : (gR (mg 4625 I J R) 4561 12 8).bind F = F 4569 := by rw [ogR_4561_8 hR]; rfl
theorem gr_4561_9 {F : Nat → Option β} (hR : RA R) : (gR (mg 4625 I J R) 4561 12 9).bind F = F 4570 := by rw [ogR_4561_9 hR]; rfl
theorem gr_4561_11 {F : Nat → Option β} (hR : RA R) : (gR (mg 4625 I J R) 4561 12 11).bind F = F 4571 := by rw [ogR_4561_11 hR]; rfl
theorem gr_4561_12 {F : Nat → Option β} (hR : RA R) : (gR (mg 4625 I J R) 4561 12 12).bind F = F 4572 := by rw [ogR_4561_12 hR]; rfl
theorem gr_4561_13 {F : Nat → Option β} (hR : RA R) : (gR (mg 4625 I J R) 4561 12 13).bind F = F 4573 := by rw [ogR_4561_13 hR]; rfl
theorem gr_4561_14 {F : Nat → Option β} (hR : RA R) : (gR (mg 4625 I J R) 4561 12 14).bind F = F 4574 := by rw [ogR_4561_14 hR]; rfl
theorem gr_4561_15 {F : Nat → Option β} (hR : RA R) : (gR (mg 4625 I J R) 4561 12 15).bind F = F 4575 := by rw [ogR_4561_15 hR]; rfl
theorem gr_4561_16 {F : Nat → Option β} (hR : RA R) : (gR (mg 4625 I J R) 4561 12 16).bind F = F 4576 := by rw [ogR_4561_16 hR]; rfl
theorem gr_4561_17 {F : Nat → Option β} (hR : RA R) : (gR (mg 4625 I J R) 4561 12 17).bind F = F 4577 := by rw [ogR_4561_17 hR]; rfl
theorem gr_4561_18 {F : Nat → Option β} (hR : RA R) : (gR (mg 4625 I J R) 4561 12 18).bind F = F 4578 := by rw [ogR_4561_18 hR]; rfl
theorem gr_4561_20 {F : Nat → Option β} (hR : RA R) : (gR (mg 4625 I J R) 4561 12 20).bind F = F 4579 := by rw [ogR_4561_20 hR]; rfl
theorem gr_4561_21 {F : Nat → Option β} (hR : RA R) : (gR (mg 4625 I J R) 4561 12 21).bind F = F 4580 := by rw [ogR_4561_21 hR]; rfl
theorem gr_4561_22 {F : Nat → Option β} (hR : RA R) : (gR (mg 4625 I J R) 4561 12 22).bind F = F 4581 := by rw [ogR_4561_22 hR]; rfl
theorem gr_4561_23 {F : Nat → Option β} (hR : RA R) : (gR (mg 4625 I J R) 4561 12 23).bind F = F 4582 := by rw [ogR_4561_23 hR]; rfl
theorem gr_4561_24 {F : Nat → Option β} (hR : RA R) : (gR (mg 4625 I J R) 4561 12 24).bind F = F 4583 := by rw [ogR_4561_24 hR]; rfl
theorem gr_4561_27 {F : Nat → Option β} (hR : RA R) : (gR (mg 4625 I J R) 4561 12 27).bind F = F 4584 := by rw [ogR_4561_27 hR]; rfl
theorem gr_4561_28 {F : Nat → Option β} (hR : RA R) : (gR (mg 4625 I J R) 4561 12 28).bind F = F 4585 := by rw [ogR_4561_28 hR]; rfl
theorem gr_4561_29 {F : Nat → Option β} (hR : RA R) : (gR (mg 4625 I J R) 4561 12 29).bind F = F 4586 := by rw [ogR_4561_29 hR]; rfl
theorem gr_4561_30 {F : Nat → Option β} (hR : RA R) : (gR (mg 4625 I J R) 4561 12 30).bind F = F 4587 := by rw [ogR_4561_30 hR]; rfl
theorem gr_4561_31 {F : Nat → Option β} (hR : RA R) : (gR (mg 4625 I J R) 4561 12 31).bind F = F 4588 := by rw [ogR_4561_31 hR]; rfl
theorem gr_4561_32 {F : Nat → Option β} (hR : RA R) : (gR (mg 4625 I J R) 4561 12 32).bind F = F 4589 := by rw [ogR_4561_32 hR]; rfl
theorem gr_4561_34 {F : Nat → Option β} (hR : RA R) : (gR (mg 4625 I J R) 4561 12 34).bind F = F 4590 := by rw [ogR_4561_34 hR]; rfl
theorem gr_4561_35 {F : Nat → Option β} (hR : RA R) : (gR (mg 4625 I J R) 4561 12 35).bind F = F 4591 := by rw [ogR_4561_35 hR]; rfl
theorem gr_4561_37 {F : Nat → Option β} (hR : RA R) : (gR (mg 4625 I J R) 4561 12 37).bind F = F 4592 := by rw [ogR_4561_37 hR]; rfl
theorem gr_4561_38 {F : Nat → Option β} (hR : RA R) : (gR (mg 4625 I J R) 4561 12 38).bind F = F 4593 := by rw [ogR_4561_38 hR]; rfl
theorem gr_4561_39 {F : Nat → Option β} (hR : RA R) : (gR (mg 4625 I J R) 4561 12 39).bind F = F 4594 := by rw [ogR_4561_39 hR]; rfl
theorem gr_4561_41 {F : Nat → Option β} (hR : RA R) : (gR (mg 4625 I J R) 4561 12 41).bind F = F 4595 := by rw [ogR_4561_41 hR]; rfl
theorem gr_4561_43 {F : Nat → Option β} (hR : RA R) : (gR (mg 4625 I J R) 4561 12 43).bind F = F 4596 := by rw [ogR_4561_43 hR]; rfl
theorem gr_4561_44 {F : Nat → Option β} (hR : RA R) : (gR (mg 4625 I J R) 4561 12 44).bind F = F 4597 := by rw [ogR_4561_44 hR]; rfl
theorem gr_4561_46 {F : Nat → Option β} (hR : RA R) : (gR (mg 4625 I J R) 4561 12 46).bind F = F 4598 := by rw [ogR_4561_46 hR]; rfl
theorem gr_4561_47 {F : Nat → Option β} (hR : RA R) : (gR (mg 4625 I J R) 4561 12 47).bind F = F 4599 := by rw [ogR_4561_47 hR]; rfl
theorem gr_4561_48 {F : Nat → Option β} (hR : RA R) : (gR (mg 4625 I J R) 4561 12 48).bind F = F 4600 := by rw [ogR_4561_48 hR]; rfl
theorem gr_4561_49 {F : Nat → Option β} (hR : RA R) : (gR (mg 4625 I J R) 4561 12 49).bind F = F 4601 := by rw [ogR_4561_49 hR]; rfl
theorem gr_4561_50 {F : Nat → Option β} (hR : RA R) : (gR (mg 4625 I J R) 4561 12 50).bind F = F 4602 := by rw [ogR_4561_50 hR]; rfl
theorem gr_4561_51 {F : Nat → Option β} (hR : RA R) : (gR (mg 4625 I J R) 4561 12 51).bind F = F 4603 := by rw [ogR_4561_51 hR]; rfl
theorem gr_4561_52 {F : Nat → Option β} (hR : RA R) : (gR (mg 4625 I J R) 4561 12 52).bind F = F 4604 := by rw [ogR_4561_52 hR]; rfl
theorem gr_4561_53 {F : Nat → Option β} (hR : RA R) : (gR (mg 4625 I J R) 4561 12 53).bind F = F 4605 := by rw [ogR_4561_53 hR]; rfl
theorem gr_4561_54 {F : Nat → Option β} (hR : RA R) : (gR (mg 4625 I J R) 4561 12 54).bind F = F 4606 := by rw [ogR_4561_54 hR]; rfl
theorem gr_4561_55 {F : Nat → Option β} (hR : RA R) : (gR (mg 4625 I J R) 4561 12 55).bind F = F 4607 := by rw [ogR_4561_55 hR]; rfl
theorem gr_4561_57 {F : Nat → Option β} (hR : RA R) : (gR (mg 4625 I J R) 4561 12 57).bind F = F 4608 := by rw [ogR_4561_57 hR]; rfl
theorem gr_4561_58 {F : Nat → Option β} (hR : RA R) : (gR (mg 4625 I J R) 4561 12 58).bind F = F 4609 := by rw [ogR_4561_58 hR]; rfl
theorem gr_4561_59 {F : Nat → Option β} (hR : RA R) : (gR (mg 4625 I J R) 4561 12 59).bind F = F 4610 := by rw [ogR_4561_59 hR]; rfl
theorem gr_4561_65 {F : Nat → Option β} (hR : RA R) : (gR (mg 4625 I J R) 4561 12 65).bind F = F 4611 := by rw [ogR_4561_65 hR]; rfl
theorem gr_4561_66 {F : Nat → Option β} (hR : RA R) : (gR (mg 4625 I J R) 4561 12 66).bind F = F 4612 := by rw [ogR_4561_66 hR]; rfl
theorem gr_4561_70 {F : Nat → Option β} (hR : RA R) : (gR (mg 4625 I J R) 4561 12 70).bind F = F 4613 := by rw [ogR_4561_70 hR]; rfl
theorem gr_4561_71 {F : Nat → Option β} (hR : RA R) : (gR (mg 4625 I J R) 4561 12 71).bind F = F 4614 := by rw [ogR_4561_71 hR]; rfl
theorem gr_4561_72 {F : Nat → Option β} (hR : RA R) : (gR (mg 4625 I J R) 4561 12 72).bind F = F 4615 := by rw [ogR_4561_72 hR]; rfl
theorem gr_4561_73 {F : Nat → Option β} (hR : RA R) : (gR (mg 4625 I J R) 4561 12 73).bind F = F 4616 := by rw [ogR_4561_73 hR]; rfl
theorem gr_4561_77 {F : Nat → Option β} (hR : RA R) : (gR (mg 4625 I J R) 4561 12 77).bind F = F 4617 := by rw [ogR_4561_77 hR]; rfl
theorem gr_4561_78 {F : Nat → Option β} (hR : RA R) : (gR (mg 4625 I J R) 4561 12 78).bind F = F 4618 := by rw [ogR_4561_78 hR]; rfl
theorem gr_4561_79 {F : Nat → Option β} (hR : RA R) : (gR (mg 4625 I J R) 4561 12 79).bind F = F 4619 := by rw [ogR_4561_79 hR]; rfl
theorem gr_4561_80 {F : Nat → Option β} (hR : RA R) : (gR (mg 4625 I J R) 4561 12 80).bind F = F 4620 := by rw [ogR_4561_80 hR]; rfl
theorem gr_4561_81 {F : Nat → Option β} (hR : RA R) : (gR (mg 4625 I J R) 4561 12 81).bind F = F 4621 := by rw [ogR_4561_81 hR]; rfl
theorem gr_4561_82 {F : Nat → Option β} (hR : RA R) : (gR (mg 4625 I J R) 4561 12 82).bind F = F 4622 := by rw [ogR_4561_82 hR]; rfl
theorem gr_4561_85 {F : Nat → Option β} (hR : RA R) : (gR (mg 4625 I J R) 4561 12 85).bind F = F 4623 := by rw [ogR_4561_85 hR]; rfl
theorem gi_2 {k : Nat} {F : Int32 → Option β} : (gI (mg 4625 I J R) 2 10 k).bind F = F (I 2 k) := by rw [ogI_2]; rfl
theorem gs_2 {k : Nat} {v : Int32} {F : xM → Option β} : (sI (mg 4625 I J R) 2 10 k v).bind F = F (mg 4625 (up I 2 k v) J R) := by rw [osI_2]; rfl
theorem gr_2_0 {F : Nat → Option β} (hR : RA R) : (gR (mg 4625 I J R) 2 10 0).bind F = F 3 := by rw [ogR_2_0 hR]; rfl
theorem gi_4 {k : Nat} {F : Int32 → Option β} : (gI (mg 4625 I J R) 4 10 k).bind F = F (I 4 k) := by rw [ogI_4]; rfl
theorem gs_4 {k : Nat} {v : Int32} {F : xM → Option β} : (sI (mg 4625 I J R) 4 10 k v).bind F = F (mg 4625 (up I 4 k v) J R) := by rw [osI_4]; rfl
theorem gr_4_0 {F : Nat → Option β} (hR : RA R) : (gR (mg 4625 I J R) 4 10 0).bind F = F 5 := by rw [ogR_4_0 hR]; rfl
theorem gi_6 {k : Nat} {F : Int32 → Option β} : (gI (mg 4625 I J R) 6 10 k).bind F = F (I 6 k) := by rw [ogI_6]; rfl
theorem gs_6 {k : Nat} {v : Int32} {F : xM → Option β} : (sI (mg 4625 I J R) 6 10 k v).bind F = F (mg 4625 (up I 6 k v) J R) := by rw [osI_6]; rfl
theorem gr_6_0 {F : Nat → Option β} (hR : RA R) : (gR (mg 4625 I J R) 6 10 0).bind F = F 7 := by rw [ogR_6_0 hR]; rfl
theorem gi_8 {k : Nat} {F : Int32 → Option β} : (gI (mg 4625 I J R) 8 10 k).bind F = F (I 8 k) := by rw [ogI_8]; rfl
theorem gs_8 {k : Nat} {v : Int32} {F : xM → Option β} : (sI (mg 4625 I J R) 8 10 k v).bind F = F (mg 4625 (up I 8 k v) J R) := by rw [osI_8]; rfl
theorem gr_8_0 {F : Nat → Option β} (hR : RA R) : (gR (mg 4625 I J R) 8 10 0).bind F = F 9 := by rw [ogR_8_0 hR]; rfl
theorem gi_560 {k : Nat} {F : Int32 → Option β} : (gI (mg 4625 I J R) 560 10 k).bind F = F (I 560 k) := by rw [ogI_560]; rfl
theorem gs_560 {k : Nat} {v : Int32} {F : xM → Option β} : (sI (mg 4625 I J R) 560 10 k v).bind F = F (mg 4625 (up I 560 k v) J R) := by rw [osI_560]; rfl
theorem gr_560_0 {F : Nat → Option β} (hR : RA R) : (gR (mg 4625 I J R) 560 10 0).bind F = F 561 := by rw [ogR_560_0 hR]; rfl
theorem gi_564 {k : Nat} {F : Int32 → Option β} : (gI (mg 4625 I J R) 564 10 k).bind F = F (I 564 k) := by rw [ogI_564]; rfl
theorem gs_564 {k : Nat} {v : Int32} {F : xM → Option β} : (sI (mg 4625 I J R) 564 10 k v).bind F = F (mg 4625 (up I 564 k v) J R) := by rw [osI_564]; rfl
theorem gr_564_0 {F : Nat → Option β} (hR : RA R) : (gR (mg 4625 I J R) 564 10 0).bind F = F 565 := by rw [ogR_564_0 hR]; rfl
theorem gi_569 {k : Nat} {F : Int32 → Option β} : (gI (mg 4625 I J R) 569 2 k).bind F = F (I 569 k) := by rw [ogI_569]; rfl
theorem gs_569 {k : Nat} {v : Int32} {F : xM → Option β} : (sI (mg 4625 I J R) 569 2 k v).bind F = F (mg 4625 (up I 569 k v) J R) := by rw [osI_569]; rfl
theorem gr_569_0 {F : Nat → Option β} (hR : RA R) : (gR (mg 4625 I J R) 569 2 0).bind F = F 570 := by rw [ogR_569_0 hR]; rfl
theorem gr_569_1 {F : Nat → Option β} (hR : RA R) : (gR (mg 4625 I J R) 569 2 1).bind F = F 572 := by rw [ogR_569_1 hR]; rfl
theorem gi_1786 {k : Nat} {F : Int32 → Option β} : (gI (mg 4625 I J R) 1786 2 k).bind F = F (I 1786 k) := by rw [ogI_1786]; rfl
theorem gs_1786 {k : Nat} {v : Int32} {F : xM → Option β} : (sI (mg 4625 I J R) 1786 2 k v).bind F = F (mg 4625 (up I 1786 k v) J R) := by rw [osI_1786]; rfl
theorem gr_1786_0 {F : Nat → Option β} (hR : RA R) : (gR (mg 4625 I J R) 1786 2 0).bind F = F 1787 := by rw [ogR_1786_0 hR]; rfl
theorem gr_1786_1 {F : Nat → Option β} (hR : RA R) : (gR (mg 4625 I J R) 1786 2 1).bind F = F 1789 := by rw [ogR_1786_1 hR]; rfl
theorem gi_1791 {k : Nat} {F : Int32 → Option β} : (gI (mg 4625 I J R) 1791 2 k).bind F = F (I 1791 k) := by rw [ogI_1791]; rfl
theorem gs_1791 {k : Nat} {v : Int32} {F : xM → Option β} : (sI (mg 4625 I J R) 1791 2 k v).bind F = F (mg 4625 (up I 1791 k v) J R) := by rw [osI_1791]; rfl
theorem gr_1791_0 {F : Nat → Option β} (hR : RA R) : (gR (mg 4625 I J R) 1791 2 0).bind F = F 1792 := by rw [ogR_1791_0 hR]; rfl
theorem gr_1791_1 {F : Nat → Option β} (hR : RA R) : (gR (mg 4625 I J R) 1791 2 1).bind F = F 1794 := by rw [ogR_1791_1 hR]; rfl
theorem gi_1796 {k : Nat} {F : Int32 → Option β} : (gI (mg 4625 I J R) 1796 2 k).bind F = F (I 1796 k) := by rw [ogI_1796]; rfl
theorem gs_1796 {k : Nat} {v : Int32} {F : xM → Option β} : (sI (mg 4625 I J R) 1796 2 k v).bind F = F (mg 4625 (up I 1796 k v) J R) := by rw [osI_1796]; rfl
theorem gr_1796_0 {F : Nat → Option β} (hR : RA R) : (gR (mg 4625 I J R) 1796 2 0).bind F = F 1797 := by rw [ogR_1796_0 hR]; rfl
theorem gr_1796_1 {F : Nat → Option β} (hR : RA R) : (gR (mg 4625 I J R) 1796 2 1).bind F = F 1799 := by rw [ogR_1796_1 hR]; rfl
theorem gi_1801 {k : Nat} {F : Int32 → Option β} : (gI (mg 4625 I J R) 1801 2 k).bind F = F (I 1801 k) := by rw [ogI_1801]; rfl
theorem gs_1801 {k : Nat} {v : Int32} {F : xM → Option β} : (sI (mg 4625 I J R) 1801 2 k v).bind F = F (mg 4625 (up I 1801 k v) J R) := by rw [osI_1801]; rfl
theorem gr_1801_0 {F : Nat → Option β} (hR : RA R) : (gR (mg 4625 I J R) 1801 2 0).bind F = F 1802 := by rw [ogR_1801_0 hR]; rfl
theorem gr_1801_1 {F : Nat → Option β} (hR : RA R) : (gR (mg 4625 I J R) 1801 2 1).bind F = F 1804 := by rw [ogR_1801_1 hR]; rfl
theorem gi_2220 {k : Nat} {F : Int32 → Option β} : (gI (mg 4625 I J R) 2220 2 k).bind F = F (I 2220 k) := by rw [ogI_2220]; rfl
theorem gs_2220 {k : Nat} {v : Int32} {F : xM → Option β} : (sI (mg 4625 I J R) 2220 2 k v).bind F = F (mg 4625 (up I 2220 k v) J R) := by rw [osI_2220]; rfl
theorem gr_2220_0 {F : Nat → Option β} (hR : RA R) : (gR (mg 4625 I J R) 2220 2 0).bind F = F 2221 := by rw [ogR_2220_0 hR]; rfl
theorem gr_2220_1 {F : Nat → Option β} (hR : RA R) : (gR (mg 4625 I J R) 2220 2 1).bind F = F 2223 := by rw [ogR_2220_1 hR]; rfl
theorem gi_2225 {k : Nat} {F : Int32 → Option β} : (gI (mg 4625 I J R) 2225 2 k).bind F = F (I 2225 k) := by rw [ogI_2225]; rfl
theorem gs_2225 {k : Nat} {v : Int32} {F : xM → Option β} : (sI (mg 4625 I J R) 2225 2 k v).bind F = F (mg 4625 (up I 2225 k v) J R) := by rw [osI_2225]; rfl
theorem gr_2225_0 {F : Nat → Option β} (hR : RA R) : (gR (mg 4625 I J R) 2225 2 0).bind F = F 2226 := by rw [ogR_2225_0 hR]; rfl
theorem gr_2225_1 {F : Nat → Option β} (hR : RA R) : (gR (mg 4625 I J R) 2225 2 1).bind F = F 2228 := by rw [ogR_2225_1 hR]; rfl
theorem gi_2231 {k : Nat} {F : Int32 → Option β} : (gI (mg 4625 I J R) 2231 2 k).bind F = F (I 2231 k) := by rw [ogI_2231]; rfl
theorem gs_2231 {k : Nat} {v : Int32} {F : xM → Option β} : (sI (mg 4625 I J R) 2231 2 k v).bind F = F (mg 4625 (up I 2231 k v) J R) := by rw [osI_2231]; rfl
theorem gr_2231_0 {F : Nat → Option β} (hR : RA R) : (gR (mg 4625 I J R) 2231 2 0).bind F = F 2232 := by rw [ogR_2231_0 hR]; rfl
theorem gr_2231_1 {F : Nat → Option β} (hR : RA R) : (gR (mg 4625 I J R) 2231 2 1).bind F = F 2234 := by rw [ogR_2231_1 hR]; rfl
theorem gi_2236 {k : Nat} {F : Int32 → Option β} : (gI (mg 4625 I J R) 2236 2 k).bind F = F (I 2236 k) := by rw [ogI_2236]; rfl
theorem gs_2236 {k : Nat} {v : Int32} {F : xM → Option β} : (sI (mg 4625 I J R) 2236 2 k v).bind F = F (mg 4625 (up I 2236 k v) J R) := by rw [osI_2236]; rfl
theorem gr_2236_0 {F : Nat → Option β} (hR : RA R) : (gR (mg 4625 I J R) 2236 2 0).bind F = F 2237 := by rw [ogR_2236_0 hR]; rfl
theorem gr_2236_1 {F : Nat → Option β} (hR : RA R) : (gR (mg 4625 I J R) 2236 2 1).bind F = F 2239 := by rw [ogR_2236_1 hR]; rfl
theorem gi_2241 {k : Nat} {F : Int32 → Option β} : (gI (mg 4625 I J R) 2241 2 k).bind F = F (I 2241 k) := by rw [ogI_2241]; rfl
theorem gs_2241 {k : Nat} {v : Int32} {F : xM → Option β} : (sI (mg 4625 I J R) 2241 2 k v).bind F = F (mg 4625 (up I 2241 k v) J R) := by rw [osI_2241]; rfl
theorem gr_2241_0 {F : Nat → Option β} (hR : RA R) : (gR (mg 4625 I J R) 2241 2 0).bind F = F 2242 := by rw [ogR_2241_0 hR]; rfl
theorem gr_2241_1 {F : Nat → Option β} (hR : RA R) : (gR (mg 4625 I J R) 2241 2 1).bind F = F 2244 := by rw [ogR_2241_1 hR]; rfl
theorem gi_570 {k : Nat} {F : Int32 → Option β} : (gI (mg 4625 I J R) 570 10 k).bind F = F (I 570 k) := by rw [ogI_570]; rfl
theorem gs_570 {k : Nat} {v : Int32} {F : xM → Option β} : (sI (mg 4625 I J R) 570 10 k v).bind F = F (mg 4625 (up I 570 k v) J R) := by rw [osI_570]; rfl
theorem gr_570_0 {F : Nat → Option β} (hR : RA R) : (gR (mg 4625 I J R) 570 10 0).bind F = F 571 := by rw [ogR_570_0 hR]; rfl
theorem gi_572 {k : Nat} {F : Int32 → Option β} : (gI (mg 4625 I J R) 572 10 k).bind F = F (I 572 k) := by rw [ogI_572]; rfl
theorem gs_572 {k : Nat} {v : Int32} {F : xM → Option β} : (sI (mg 4625 I J R) 572 10 k v).bind F = F (mg 4625 (up I 572 k v) J R) := by rw [osI_572]; rfl
theorem gr_572_0 {F : Nat → Option β} (hR : RA R) : (gR (mg 4625 I J R) 572 10 0).bind F = F 573 := by rw [ogR_572_0 hR]; rfl
theorem gi_1787 {k : Nat} {F : Int32 → Option β} : (gI (mg 4625 I J R) 1787 10 k).bind F = F (I 1787 k) := by rw [ogI_1787]; rfl
theorem gs_1787 {k : Nat} {v : Int32} {F : xM → Option β} : (sI (mg 4625 I J R) 1787 10 k v).bind F = F (mg 4625 (up I 1787 k v) J R) := by rw [osI_1787]; rfl
theorem gr_1787_0 {F : Nat → Option β} (hR : RA R) : (gR (mg 4625 I J R) 1787 10 0).bind F = F 1788 := by rw [ogR_1787_0 hR]; rfl
theorem gi_1789 {k : Nat} {F : Int32 → Option β} : (gI (mg 4625 I J R) 1789 10 k).bind F = F (I 1789 k) := by rw [ogI_1789]; rfl
theorem gs_1789 {k : Nat} {v : Int32} {F : xM → Option β} : (sI (mg 4625 I J R) 1789 10 k v).bind F = F (mg 4625 (up I 1789 k v) J R) := by rw [osI_1789]; rfl
theorem gr_1789_0 {F : Nat → Option β} (hR : RA R) : (gR (mg 4625 I J R) 1789 10 0).bind F = F 1790 := by rw [ogR_1789_0 hR]; rfl
theorem gi_1792 {k : Nat} {F : Int32 → Option β} : (gI (mg 4625 I J R) 1792 10 k).bind F = F (I 1792 k) := by rw [ogI_1792]; rfl
theorem gs_1792 {k : Nat} {v : Int32} {F : xM → Option β} : (sI (mg 4625 I J R) 1792 10 k v).bind F = F (mg 4625 (up I 1792 k v) J R) := by rw [osI_1792]; rfl
theorem gr_1792_0 {F : Nat → Option β} (hR : RA R) : (gR (mg 4625 I J R) 1792 10 0).bind F = F 1793 := by rw [ogR_1792_0 hR]; rfl
theorem gi_1794 {k : Nat} {F : Int32 → Option β} : (gI (mg 4625 I J R) 1794 10 k).bind F = F (I 1794 k) := by rw [ogI_1794]; rfl
theorem gs_1794 {k : Nat} {v : Int32} {F : xM → Option β} : (sI (mg 4625 I J R) 1794 10 k v).bind F = F (mg 4625 (up I 1794 k v) J R) := by rw [osI_1794]; rfl
theorem gr_1794_0 {F : Nat → Option β} (hR : RA R) : (gR (mg 4625 I J R) 1794 10 0).bind F = F 1795 := by rw [ogR_1794_0 hR]; rfl
theorem gi_1797 {k : Nat} {F : Int32 → Option β} : (gI (mg 4625 I J R) 1797 10 k).bind F = F (I 1797 k) := by rw [ogI_1797]; rfl
theorem gs_1797 {k : Nat} {v : Int32} {F : xM → Option β} : (sI (mg 4625 I J R) 1797 10 k v).bind F = F (mg 4625 (up I 1797 k v) J R) := by rw [osI_1797]; rfl
theorem gr_1797_0 {F : Nat → Option β} (hR : RA R) : (gR (mg 4625 I J R) 1797 10 0).bind F = F 1798 := by rw [ogR_1797_0 hR]; rfl
theorem gi_1799 {k : Nat} {F : Int32 → Option β} : (gI (mg 4625 I J R) 1799 10 k).bind F = F (I 1799 k) := by rw [ogI_1799]; rfl
theorem gs_1799 {k : Nat} {v : Int32} {F : xM → Option β} : (sI (mg 4625 I J R) 1799 10 k v).bind F = F (mg 4625 (up I 1799 k v) J R) := by rw [osI_1799]; rfl
theorem gr_1799_0 {F : Nat → Option β} (hR : RA R) : (gR (mg 4625 I J R) 1799 10 0).bind F = F 1800 := by rw [ogR_1799_0 hR]; rfl
theorem gi_1802 {k : Nat} {F : Int32 → Option β} : (gI (mg 4625 I J R) 1802 10 k).bind F = F (I 1802 k) := by rw [ogI_1802]; rfl
theorem gs_1802 {k : Nat} {v : Int32} {F : xM → Option β} : (sI (mg 4625 I J R) 1802 10 k v).bind F = F (mg 4625 (up I 1802 k v) J R) := by rw [osI_1802]; rfl
theorem gr_1802_0 {F : Nat → Option β} (hR : RA R) : (gR (mg 4625 I J R) 1802 10 0).bind F = F 1803 := by rw [ogR_1802_0 hR]; rfl
theorem gi_1804 {k : Nat} {F : Int32 → Option β} : (gI (mg 4625 I J R) 1804 10 k).bind F = F (I 1804 k) := by rw [ogI_1804]; rfl
theorem gs_1804 {k : Nat} {v : Int32} {F : xM → Option β} : (sI (mg 4625 I J R) 1804 10 k v).bind F = F (mg 4625 (up I 1804 k v) J R) := by rw [osI_1804]; rfl
theorem gr_1804_0 {F : Nat → Option β} (hR : RA R) : (gR (mg 4625 I J R) 1804 10 0).bind F = F 1805 := by rw [ogR_1804_0 hR]; rfl
theorem gi_2221 {k : Nat} {F : Int32 → Option β} : (gI (mg 4625 I J R) 2221 10 k).bind F = F (I 2221 k) := by rw [ogI_2221]; rfl
theorem gs_2221 {k : Nat} {v : Int32} {F : xM → Option β} : (sI (mg 4625 I J R) 2221 10 k v).bind F = F (mg 4625 (up I 2221 k v) J R) := by rw [osI_2221]; rfl
theorem gr_2221_0 {F : Nat → Option β} (hR : RA R) : (gR (mg 4625 I J R) 2221 10 0).bind F = F 2222 := by rw [ogR_2221_0 hR]; rfl
theorem gi_2223 {k : Nat} {F : Int32 → Option β} : (gI (mg 4625 I J R) 2223 10 k).bind F = F (I 2223 k) := by rw [ogI_2223]; rfl
theorem gs_2223 {k : Nat} {v : Int32} {F : xM → Option β} : (sI (mg 4625 I J R) 2223 10 k v).bind F = F (mg 4625 (up I 2223 k v) J R) := by rw [osI_2223]; rfl
theorem gr_2223_0 {F : Nat → Option β} (hR : RA R) : (gR (mg 4625 I J R) 2223 10 0).bind F = F 2224 := by rw [ogR_2223_0 hR]; rfl
theorem gi_2226 {k : Nat} {F : Int32 → Option β} : (gI (mg 4625 I J R) 2226 10 k).bind F = F (I 2226 k) := by rw [ogI_2226]; rfl
theorem gs_2226 {k : Nat} {v : Int32} {F : xM → Option β} : (sI (mg 4625 I J R) 2226 10 k v).bind F = F (mg 4625 (up I 2226 k v) J R) := by rw [osI_2226]; rfl
theorem gr_2226_0 {F : Nat → Option β} (hR : RA R) : (gR (mg 4625 I J R) 2226 10 0).bind F = F 2227 := by rw [ogR_2226_0 hR]; rfl
theorem gi_2228 {k : Nat} {F : Int32 → Option β} : (gI (mg 4625 I J R) 2228 10 k).bind F = F (I 2228 k) := by rw [ogI_2228]; rfl
theorem gs_2228 {k : Nat} {v : Int32} {F : xM → Option β} : (sI (mg 4625 I J R) 2228 10 k v).bind F = F (mg 4625 (up I 2228 k v) J R) := by rw [osI_2228]; rfl
theorem gr_2228_0 {F : Nat → Option β} (hR : RA R) : (gR (mg 4625 I J R) 2228 10 0).bind F = F 2229 := by rw [ogR_2228_0 hR]; rfl
theorem gi_2232 {k : Nat} {F : Int32 → Option β} : (gI (mg 4625 I J R) 2232 10 k).bind F = F (I 2232 k) := by rw [ogI_2232]; rfl
theorem gs_2232 {k : Nat} {v : Int32} {F : xM → Option β} : (sI (mg 4625 I J R) 2232 10 k v).bind F = F (mg 4625 (up I 2232 k v) J R) := by rw [osI_2232]; rfl
theorem gr_2232_0 {F : Nat → Option β} (hR : RA R) : (gR (mg 4625 I J R) 2232 10 0).bind F = F 2233 := by rw [ogR_2232_0 hR]; rfl
theorem gi_2234 {k : Nat} {F : Int32 → Option β} : (gI (mg 4625 I J R) 2234 10 k).bind F = F (I 2234 k) := by rw [ogI_2234]; rfl
theorem gs_2234 {k : Nat} {v : Int32} {F : xM → Option β} : (sI (mg 4625 I J R) 2234 10 k v).bind F = F (mg 4625 (up I 2234 k v) J R) := by rw [osI_2234]; rfl
theorem gr_2234_0 {F : Nat → Option β} (hR : RA R) : (gR (mg 4625 I J R) 2234 10 0).bind F = F 2235 := by rw [ogR_2234_0 hR]; rfl
theorem gi_2237 {k : Nat} {F : Int32 → Option β} : (gI (mg 4625 I J R) 2237 10 k).bind F = F (I 2237 k) := by rw [ogI_2237]; rfl
theorem gs_2237 {k : Nat} {v : Int32} {F : xM → Option β} : (sI (mg 4625 I J R) 2237 10 k v).bind F = F (mg 4625 (up I 2237 k v) J R) := by rw [osI_2237]; rfl
theorem gr_2237_0 {F : Nat → Option β} (hR : RA R) : (gR (mg 4625 I J R) 2237 10 0).bind F = F 2238 := by rw [ogR_2237_0 hR]; rfl
theorem gi_2239 {k : Nat} {F : Int32 → Option β} : (gI (mg 4625 I J R) 2239 10 k).bind F = F (I 2239 k) := by rw [ogI_2239]; rfl
theorem gs_2239 {k : Nat} {v : Int32} {F : xM → Option β} : (sI (mg 4625 I J R) 2239 10 k v).bind F = F (mg 4625 (up I 2239 k v) J R) := by rw [osI_2239]; rfl
theorem gr_2239_0 {F : Nat → Option β} (hR : RA R) : (gR (mg 4625 I J R) 2239 10 0).bind F = F 2240 := by rw [ogR_2239_0 hR]; rfl
theorem gi_2242 {k : Nat} {F : Int32 → Option β} : (gI (mg 4625 I J R) 2242 10 k).bind F = F (I 2242 k) := by rw [ogI_2242]; rfl
theorem gs_2242 {k : Nat} {v : Int32} {F : xM → Option β} : (sI (mg 4625 I J R) 2242 10 k v).bind F = F (mg 4625 (up I 2242 k v) J R) := by rw [osI_2242]; rfl
theorem gr_2242_0 {F : Nat → Option β} (hR : RA R) : (gR (mg 4625 I J R) 2242 10 0).bind F = F 2243 := by rw [ogR_2242_0 hR]; rfl
theorem gi_2244 {k : Nat} {F : Int32 → Option β} : (gI (mg 4625 I J R) 2244 10 k).bind F = F (I 2244 k) := by rw [ogI_2244]; rfl
theorem gs_2244 {k : Nat} {v : Int32} {F : xM → Option β} : (sI (mg 4625 I J R) 2244 10 k v).bind F = F (mg 4625 (up I 2244 k v) J R) := by rw [osI_2244]; rfl
theorem gr_2244_0 {F : Nat → Option β} (hR : RA R) : (gR (mg 4625 I J R) 2244 10 0).bind F = F 2245 := by rw [ogR_2244_0 hR]; rfl
theorem gi_4542 {k : Nat} {F : Int32 → Option β} : (gI (mg 4625 I J R) 4542 10 k).bind F = F (I 4542 k) := by rw [ogI_4542]; rfl
theorem gs_4542 {k : Nat} {v : Int32} {F : xM → Option β} : (sI (mg 4625 I J R) 4542 10 k v).bind F = F (mg 4625 (up I 4542 k v) J R) := by rw [osI_4542]; rfl
theorem gr_4542_0 {F : Nat → Option β} (hR : RA R) : (gR (mg 4625 I J R) 4542 10 0).bind F = F 4543 := by rw [ogR_4542_0 hR]; rfl
theorem gi_4544 {k : Nat} {F : Int32 → Option β} : (gI (mg 4625 I J R) 4544 10 k).bind F = F (I 4544 k) := by rw [ogI_4544]; rfl
theorem gs_4544 {k : Nat} {v : Int32} {F : xM → Option β} : (sI (mg 4625 I J R) 4544 10 k v).bind F = F (mg 4625 (up I 4544 k v) J R) := by rw [osI_4544]; rfl
theorem gr_4544_0 {F : Nat → Option β} (hR : RA R) : (gR (mg 4625 I J R) 4544 10 0).bind F = F 4545 := by rw [ogR_4544_0 hR]; rfl
theorem gi_4547 {k : Nat} {F : Int32 → Option β} : (gI (mg 4625 I J R) 4547 10 k).bind F = F (I 4547 k) := by rw [ogI_4547]; rfl
theorem gs_4547 {k : Nat} {v : Int32} {F : xM → Option β} : (sI (mg 4625 I J R) 4547 10 k v).bind F = F (mg 4625 (up I 4547 k v) J R) := by rw [osI_4547]; rfl
theorem gr_4547_0 {F : Nat → Option β} (hR : RA R) : (gR (mg 4625 I J R) 4547 10 0).bind F = F 4548 := by rw [ogR_4547_0 hR]; rfl
theorem gi_4549 {k : Nat} {F : Int32 → Option β} : (gI (mg 4625 I J R) 4549 10 k).bind F = F (I 4549 k) := by rw [ogI_4549]; rfl
theorem gs_4549 {k : Nat} {v : Int32} {F : xM → Option β} : (sI (mg 4625 I J R) 4549 10 k v).bind F = F (mg 4625 (up I 4549 k v) J R) := by rw [osI_4549]; rfl
theorem gr_4549_0 {F : Nat → Option β} (hR : RA R) : (gR (mg 4625 I J R) 4549 10 0).bind F = F 4550 := by rw [ogR_4549_0 hR]; rfl
theorem ga_3 {k : Nat} {F : Int32 → Option β} (h : k < 100) : (aI (mg 4625 I J R) 3 14 (Int32.ofNat (k))).bind F = F (I 3 k) := by rw [e_aI (a := 3) (by decide) (show KK 3 = (14, 100) from rfl) h (by decide)]; rfl
theorem gw_3 {k : Nat} {v : Int32} {F : xM → Option β} (h : k < 100) : (wI (mg 4625 I J R) 3 (Int32.ofNat (k)) v).bind F = F (mg 4625 (up I 3 k v) J R) := by rw [e_wI (a := 3) (by decide) (show KK 3 = (14, 100) from rfl) h (by decide)]; rfl
theorem ga_5 {k : Nat} {F : Int32 → Option β} (h : k < 100) : (aI (mg 4625 I J R) 5 14 (Int32.ofNat (k))).bind F = F (I 5 k) := by rw [e_aI (a := 5) (by decide) (show KK 5 = (14, 100) from rfl) h (by decide)]; rfl
theorem gw_5 {k : Nat} {v : Int32} {F : xM → Option β} (h : k < 100) : (wI (mg 4625 I J R) 5 (Int32.ofNat (k)) v).bind F = F (mg 4625 (up I 5 k v) J R) := by rw [e_wI (a := 5) (by decide) (show KK 5 = (14, 100) from rfl) h (by decide)]; rfl
theorem ga_7 {k : Nat} {F : Int32 → Option β} (h : k < 100) : (aI (mg 4625 I J R) 7 14 (Int32.ofNat (k))).bind F = F (I 7 k) := by rw [e_aI (a := 7) (by decide) (show KK 7 = (14, 100) from rfl) h (by decide)]; rfl
theorem gw_7 {k : Nat} {v : Int32} {F : xM → Option β} (h : k < 100) : (wI (mg 4625 I J R) 7 (Int32.ofNat (k)) v).bind F = F (mg 4625 (up I 7 k v) J R) := by rw [e_wI (a := 7) (by decide) (show KK 7 = (14, 100) from rfl) h (by decide)]; rfl
theorem ga_9 {k : Nat} {F : Int32 → Option β} (h : k < 100) : (aI (mg 4625 I J R) 9 14 (Int32.ofNat (k))).bind F = F (I 9 k) := by rw [e_aI (a := 9) (by decide) (show KK 9 = (14, 100) from rfl) h (by decide)]; rfl
theorem gw_9 {k : Nat} {v : Int32} {F : xM → Option β} (h : k < 100) : (wI (mg 4625 I J R) 9 (Int32.ofNat (k)) v).bind F = F (mg 4625 (up I 9 k v) J R) := by rw [e_wI (a := 9) (by decide) (show KK 9 = (14, 100) from rfl) h (by decide)]; rfl
theorem ga_10 {k : Nat} {F : Int32 → Option β} (h : k < 60) : (aI (mg 4625 I J R) 10 13 (Int32.ofNat (k))).bind F = F (I 10 k) := by rw [e_aI (a := 10) (by decide) (show KK 10 = (13, 60) from rfl) h (by decide)]; rfl
theorem gcw_10 {k : Nat} {v : Int32} {F : xM → Option β} (h : k < 60) : (wC (mg 4625 I J R) 10 (Int32.ofNat (k)) v).bind F = F (mg 4625 (up I 10 k (vp_nar .char v)) J R) := by rw [owC_10, if_pos (xvi_nat h (by decide)), i32_nat (by omega)]; rfl
theorem ga_12 {k : Nat} {F : Int32 → Option β} (h : k < 128) : (aI (mg 4625 I J R) 12 14 (Int32.ofNat (k))).bind F = F (I 12 k) := by rw [e_aI (a := 12) (by decide) (show KK 12 = (14, 128) from rfl) h (by decide)]; rfl
theorem gw_12 {k : Nat} {v : Int32} {F : xM → Option β} (h : k < 128) : (wI (mg 4625 I J R) 12 (Int32.ofNat (k)) v).bind F = F (mg 4625 (up I 12 k v) J R) := by rw [e_wI (a := 12) (by decide) (show KK 12 = (14, 128) from rfl) h (by decide)]; rfl
theorem ga_13 {k : Nat} {F : Int32 → Option β} (h : k < 48) : (aI (mg 4625 I J R) 13 14 (Int32.ofNat (k))).bind F = F (I 13 k) := by rw [e_aI (a := 13) (by decide) (show KK 13 = (14, 48) from rfl) h (by decide)]; rfl
theorem gw_13 {k : Nat} {v : Int32} {F : xM → Option β} (h : k < 48) : (wI (mg 4625 I J R) 13 (Int32.ofNat (k)) v).bind F = F (mg 4625 (up I 13 k v) J R) := by rw [e_wI (a := 13) (by decide) (show KK 13 = (14, 48) from rfl) h (by decide)]; rfl
theorem ga_14 {k : Nat} {F : Int32 → Option β} (h : k < 48) : (aI (mg 4625 I J R) 14 14 (Int32.ofNat (k))).bind F = F (I 14 k) := by rw [e_aI (a := 14) (by decide) (show KK 14 = (14, 48) from rfl) h (by decide)]; rfl
theorem gw_14 {k : Nat} {v : Int32} {F : xM → Option β} (h : k < 48) : (wI (mg 4625 I J R) 14 (Int32.ofNat (k)) v).bind F = F (mg 4625 (up I 14 k v) J R) := by rw [e_wI (a := 14) (by decide) (show KK 14 = (14, 48) from rfl) h (by decide)]; rfl
theorem ga_15 {k : Nat} {F : Int32 → Option β} (h : k < 48) : (aI (mg 4625 I J R) 15 14 (Int32.ofNat (k))).bind F = F (I 15 k) := by rw [e_aI (a := 15) (by decide) (show KK 15 = (14, 48) from rfl) h (by decide)]; rfl
theorem gw_15 {k : Nat} {v : Int32} {F : xM → Option β} (h : k < 48) : (wI (mg 4625 I J R) 15 (Int32.ofNat (k)) v).bind F = F (mg 4625 (up I 15 k v) J R) := by rw [e_wI (a := 15) (by decide) (show KK 15 = (14, 48) from rfl) h (by decide)]; rfl
theorem ga_18 {k : Nat} {F : Int32 → Option β} (h : k < 26) : (aI (mg 4625 I J R) 18 15 (Int32.ofNat (k))).bind F = F (I 18 k) := by rw [e_aI (a := 18) (by decide) (show KK 18 = (15, 26) from rfl) h (by decide)]; rfl
theorem gz_18 {k : Nat} {v : Int32} {F : xM → Option β} (h : k < 26) (hv : (v == 0 || v == 1) = true) : (wZ (mg 4625 I J R) 18 (Int32.ofNat (k)) v).bind F = F (mg 4625 (up I 18 k v) J R) := by rw [owZ_18, if_pos (by rw [hv, xvi_nat h (by decide)]; rfl), i32_nat (by omega)]; rfl
theorem ga_20 {k : Nat} {F : Int32 → Option β} (h : k < 10) : (aI (mg 4625 I J R) 20 14 (Int32.ofNat (k))).bind F = F (I 20 k) := by rw [e_aI (a := 20) (by decide) (show KK 20 = (14, 10) from rfl) h (by decide)]; rfl
theorem gw_20 {k : Nat} {v : Int32} {F : xM → Option β} (h : k < 10) : (wI (mg 4625 I J R) 20 (Int32.ofNat (k)) v).bind F = F (mg 4625 (up I 20 k v) J R) := by rw [e_wI (a := 20) (by decide) (show KK 20 = (14, 10) from rfl) h (by decide)]; rfl
theorem ga_21 {k : Nat} {F : Int32 → Option β} (h : k < 10) : (aI (mg 4625 I J R) 21 14 (Int32.ofNat (k))).bind F = F (I 21 k) := by rw [e_aI (a := 21) (by decide) (show KK 21 = (14, 10) from rfl) h (by decide)]; rfl
theorem gw_21 {k : Nat} {v : Int32} {F : xM → Option β} (h : k < 10) : (wI (mg 4625 I J R) 21 (Int32.ofNat (k)) v).bind F = F (mg 4625 (up I 21 k v) J R) := by rw [e_wI (a := 21) (by decide) (show KK 21 = (14, 10) from rfl) h (by decide)]; rfl
theorem ga_22 {k : Nat} {F : Int32 → Option β} (h : k < 10) : (aI (mg 4625 I J R) 22 14 (Int32.ofNat (k))).bind F = F (I 22 k) := by rw [e_aI (a := 22) (by decide) (show KK 22 = (14, 10) from rfl) h (by decide)]; rfl
theorem gw_22 {k : Nat} {v : Int32} {F : xM → Option β} (h : k < 10) : (wI (mg 4625 I J R) 22 (Int32.ofNat (k)) v).bind F = F (mg 4625 (up I 22 k v) J R) := by rw [e_wI (a := 22) (by decide) (show KK 22 = (14, 10) from rfl) h (by decide)]; rfl
theorem ga_23 {k : Nat} {F : Int32 → Option β} (h : k < 10) : (aI (mg 4625 I J R) 23 14 (Int32.ofNat (k))).bind F = F (I 23 k) := by rw [e_aI (a := 23) (by decide) (show KK 23 = (14, 10) from rfl) h (by decide)]; rfl
theorem gw_23 {k : Nat} {v : Int32} {F : xM → Option β} (h : k < 10) : (wI (mg 4625 I J R) 23 (Int32.ofNat (k)) v).bind F = F (mg 4625 (up I 23 k v) J R) := by rw [e_wI (a := 23) (by decide) (show KK 23 = (14, 10) from rfl) h (by decide)]; rfl
theorem ga_24 {k : Nat} {F : Int32 → Option β} (h : k < 10) : (aI (mg 4625 I J R) 24 14 (Int32.ofNat (k))).bind F = F (I 24 k) := by rw [e_aI (a := 24) (by decide) (show KK 24 = (14, 10) from rfl) h (by decide)]; rfl
theorem gw_24 {k : Nat} {v : Int32} {F : xM → Option β} (h : k < 10) : (wI (mg 4625 I J R) 24 (Int32.ofNat (k)) v).bind F = F (mg 4625 (up I 24 k v) J R) := by rw [e_wI (a := 24) (by decide) (show KK 24 = (14, 10) from rfl) h (by decide)]; rfl
theorem ga_25 {k : Nat} {F : Int32 → Option β} (h : k < 10) : (aI (mg 4625 I J R) 25 14 (Int32.ofNat (k))).bind F = F (I 25 k) := by rw [e_aI (a := 25) (by decide) (show KK 25 = (14, 10) from rfl) h (by decide)]; rfl
theorem gw_25 {k : Nat} {v : Int32} {F : xM → Option β} (h : k < 10) : (wI (mg 4625 I J R) 25 (Int32.ofNat (k)) v).bind F = F (mg 4625 (up I 25 k v) J R) := by rw [e_wI (a := 25) (by decide) (show KK 25 = (14, 10) from rfl) h (by decide)]; rfl
theorem ga_26 {k : Nat} {F : Int32 → Option β} (h : k < 10) : (aI (mg 4625 I J R) 26 14 (Int32.ofNat (k))).bind F = F (I 26 k) := by rw [e_aI (a := 26) (by decide) (show KK 26 = (14, 10) from rfl) h (by decide)]; rfl
theorem gw_26 {k : Nat} {v : Int32} {F : xM → Option β} (h : k < 10) : (wI (mg 4625 I J R) 26 (Int32.ofNat (k)) v).bind F = F (mg 4625 (up I 26 k v) J R) := by rw [e_wI (a := 26) (by decide) (show KK 26 = (14, 10) from rfl) h (by decide)]; rfl
theorem ga_27 {k : Nat} {F : Int32 → Option β} (h : k < 10) : (aI (mg 4625 I J R) 27 14 (Int32.ofNat (k))).bind F = F (I 27 k) := by rw [e_aI (a := 27) (by decide) (show KK 27 = (14, 10) from rfl) h (by decide)]; rfl
theorem gw_27 {k : Nat} {v : Int32} {F : xM → Option β} (h : k < 10) : (wI (mg 4625 I J R) 27 (Int32.ofNat (k)) v).bind F = F (mg 4625 (up I 27 k v) J R) := by rw [e_wI (a := 27) (by decide) (show KK 27 = (14, 10) from rfl) h (by decide)]; rfl
theorem ga_28 {k : Nat} {F : Int32 → Option β} (h : k < 10) : (aI (mg 4625 I J R) 28 14 (Int32.ofNat (k))).bind F = F (I 28 k) := by rw [e_aI (a := 28) (by decide) (show KK 28 = (14, 10) from rfl) h (by decide)]; rfl
theorem gw_28 {k : Nat} {v : Int32} {F : xM → Option β} (h : k < 10) : (wI (mg 4625 I J R) 28 (Int32.ofNat (k)) v).bind F = F (mg 4625 (up I 28 k v) J R) := by rw [e_wI (a := 28) (by decide) (show KK 28 = (14, 10) from rfl) h (by decide)]; rfl
theorem ga_29 {k : Nat} {F : Int32 → Option β} (h : k < 10) : (aI (mg 4625 I J R) 29 14 (Int32.ofNat (k))).bind F = F (I 29 k) := by rw [e_aI (a := 29) (by decide) (show KK 29 = (14, 10) from rfl) h (by decide)]; rfl
theorem gw_29 {k : Nat} {v : Int32} {F : xM → Option β} (h : k < 10) : (wI (mg 4625 I J R) 29 (Int32.ofNat (k)) v).bind F = F (mg 4625 (up I 29 k v) J R) := by rw [e_wI (a := 29) (by decide) (show KK 29 = (14, 10) from rfl) h (by decide)]; rfl
theorem ga_30 {k : Nat} {F : Int32 → Option β} (h : k < 10) : (aI (mg 4625 I J R) 30 14 (Int32.ofNat (k))).bind F = F (I 30 k) := by rw [e_aI (a := 30) (by decide) (show KK 30 = (14, 10) from rfl) h (by decide)]; rfl
theorem gw_30 {k : Nat} {v : Int32} {F : xM → Option β} (h : k < 10) : (wI (mg 4625 I J R) 30 (Int32.ofNat (k)) v).bind F = F (mg 4625 (up I 30 k v) J R) := by rw [e_wI (a := 30) (by decide) (show KK 30 = (14, 10) from rfl) h (by decide)]; rfl
theorem ga_31 {k : Nat} {F : Int32 → Option β} (h : k < 10) : (aI (mg 4625 I J R) 31 14 (Int32.ofNat (k))).bind F = F (I 31 k) := by rw [e_aI (a := 31) (by decide) (show KK 31 = (14, 10) from rfl) h (by decide)]; rfl
theorem gw_31 {k : Nat} {v : Int32} {F : xM → Option β} (h : k < 10) : (wI (mg 4625 I J R) 31 (Int32.ofNat (k)) v).bind F = F (mg 4625 (up I 31 k v) J R) := by rw [e_wI (a := 31) (by decide) (show KK 31 = (14, 10) from rfl) h (by decide)]; rfl
theorem ga_32 {k : Nat} {F : Int32 → Option β} (h : k < 10) : (aI (mg 4625 I J R) 32 14 (Int32.ofNat (k))).bind F = F (I 32 k) := by rw [e_aI (a := 32) (by decide) (show KK 32 = (14, 10) from rfl) h (by decide)]; rfl
theorem gw_32 {k : Nat} {v : Int32} {F : xM → Option β} (h : k < 10) : (wI (mg 4625 I J R) 32 (Int32.ofNat (k)) v).bind F = F (mg 4625 (up I 32 k v) J R) := by rw [e_wI (a := 32) (by decide) (show KK 32 = (14, 10) from rfl) h (by decide)]; rfl
theorem ga_33 {k : Nat} {F : Int32 → Option β} (h : k < 10) : (aI (mg 4625 I J R) 33 14 (Int32.ofNat (k))).bind F = F (I 33 k) := by rw [e_aI (a := 33) (by decide) (show KK 33 = (14, 10) from rfl) h (by decide)]; rfl
theorem gw_33 {k : Nat} {v : Int32} {F : xM → Option β} (h : k < 10) : (wI (mg 4625 I J R) 33 (Int32.ofNat (k)) v).bind F = F (mg 4625 (up I 33 k v) J R) := by rw [e_wI (a := 33) (by decide) (show KK 33 = (14, 10) from rfl) h (by decide)]; rfl
theorem ga_34 {k : Nat} {F : Int32 → Option β} (h : k < 10) : (aI (mg 4625 I J R) 34 14 (Int32.ofNat (k))).bind F = F (I 34 k) := by rw [e_aI (a := 34) (by decide) (show KK 34 = (14, 10) from rfl) h (by decide)]; rfl
theorem gw_34 {k : Nat} {v : Int32} {F : xM → Option β} (h : k < 10) : (wI (mg 4625 I J R) 34 (Int32.ofNat (k)) v).bind F = F (mg 4625 (up I 34 k v) J R) := by rw [e_wI (a := 34) (by decide) (show KK 34 = (14, 10) from rfl) h (by decide)]; rfl
theorem ga_35 {k : Nat} {F : Int32 → Option β} (h : k < 10) : (aI (mg 4625 I J R) 35 14 (Int32.ofNat (k))).bind F = F (I 35 k) := by rw [e_aI (a := 35) (by decide) (show KK 35 = (14, 10) from rfl) h (by decide)]; rfl
theorem gw_35 {k : Nat} {v : Int32} {F : xM → Option β} (h : k < 10) : (wI (mg 4625 I J R) 35 (Int32.ofNat (k)) v).bind F = F (mg 4625 (up I 35 k v) J R) := by rw [e_wI (a := 35) (by decide) (show KK 35 = (14, 10) from rfl) h (by decide)]; rfl
theorem ga_36 {k : Nat} {F : Int32 → Option β} (h : k < 10) : (aI (mg 4625 I J R) 36 14 (Int32.ofNat (k))).bind F = F (I 36 k) := by rw [e_aI (a := 36) (by decide) (show KK 36 = (14, 10) from rfl) h (by decide)]; rfl
theorem gw_36 {k : Nat} {v : Int32} {F : xM → Option β} (h : k < 10) : (wI (mg 4625 I J R) 36 (Int32.ofNat (k)) v).bind F = F (mg 4625 (up I 36 k v) J R) := by rw [e_wI (a := 36) (by decide) (show KK 36 = (14, 10) from rfl) h (by decide)]; rfl
theorem ga_37 {k : Nat} {F : Int32 → Option β} (h : k < 10) : (aI (mg 4625 I J R) 37 14 (Int32.ofNat (k))).bind F = F (I 37 k) := by rw [e_aI (a := 37) (by decide) (show KK 37 = (14, 10) from rfl) h (by decide)]; rfl
theorem gw_37 {k : Nat} {v : Int32} {F : xM → Option β} (h : k < 10) : (wI (mg 4625 I J R) 37 (Int32.ofNat (k)) v).bind F = F (mg 4625 (up I 37 k v) J R) := by rw [e_wI (a := 37) (by decide) (show KK 37 = (14, 10) from rfl) h (by decide)]; rfl
theorem ga_38 {k : Nat} {F : Int32 → Option β} (h : k < 10) : (aI (mg 4625 I J R) 38 14 (Int32.ofNat (k))).bind F = F (I 38 k) := by rw [e_aI (a := 38) (by decide) (show KK 38 = (14, 10) from rfl) h (by decide)]; rfl
theorem gw_38 {k : Nat} {v : Int32} {F : xM → Option β} (h : k < 10) : (wI (mg 4625 I J R) 38 (Int32.ofNat (k)) v).bind F = F (mg 4625 (up I 38 k v) J R) := by rw [e_wI (a := 38) (by decide) (show KK 38 = (14, 10) from rfl) h (by decide)]; rfl
theorem ga_39 {k : Nat} {F : Int32 → Option β} (h : k < 10) : (aI (mg 4625 I J R) 39 14 (Int32.ofNat (k))).bind F = F (I 39 k) := by rw [e_aI (a := 39) (by decide) (show KK 39 = (14, 10) from rfl) h (by decide)]; rfl
theorem gw_39 {k : Nat} {v : Int32} {F : xM → Option β} (h : k < 10) : (wI (mg 4625 I J R) 39 (Int32.ofNat (k)) v).bind F = F (mg 4625 (up I 39 k v) J R) := by rw [e_wI (a := 39) (by decide) (show KK 39 = (14, 10) from rfl) h (by decide)]; rfl
theorem ga_40 {k : Nat} {F : Int32 → Option β} (h : k < 10) : (aI (mg 4625 I J R) 40 14 (Int32.ofNat (k))).bind F = F (I 40 k) := by rw [e_aI (a := 40) (by decide) (show KK 40 = (14, 10) from rfl) h (by decide)]; rfl
theorem gw_40 {k : Nat} {v : Int32} {F : xM → Option β} (h : k < 10) : (wI (mg 4625 I J R) 40 (Int32.ofNat (k)) v).bind F = F (mg 4625 (up I 40 k v) J R) := by rw [e_wI (a := 40) (by decide) (show KK 40 = (14, 10) from rfl) h (by decide)]; rfl
theorem ga_41 {k : Nat} {F : Int32 → Option β} (h : k < 10) : (aI (mg 4625 I J R) 41 14 (Int32.ofNat (k))).bind F = F (I 41 k) := by rw [e_aI (a := 41) (by decide) (show KK 41 = (14, 10) from rfl) h (by decide)]; rfl
theorem gw_41 {k : Nat} {v : Int32} {F : xM → Option β} (h : k < 10) : (wI (mg 4625 I J R) 41 (Int32.ofNat (k)) v).bind F = F (mg 4625 (up I 41 k v) J R) := by rw [e_wI (a := 41) (by decide) (show KK 41 = (14, 10) from rfl) h (by decide)]; rfl
theorem ga_42 {k : Nat} {F : Int32 → Option β} (h : k < 10) : (aI (mg 4625 I J R) 42 14 (Int32.ofNat (k))).bind F = F (I 42 k) := by rw [e_aI (a := 42) (by decide) (show KK 42 = (14, 10) from rfl) h (by decide)]; rfl
theorem gw_42 {k : Nat} {v : Int32} {F : xM → Option β} (h : k < 10) : (wI (mg 4625 I J R) 42 (Int32.ofNat (k)) v).bind F = F (mg 4625 (up I 42 k v) J R) := by rw [e_wI (a := 42) (by decide) (show KK 42 = (14, 10) from rfl) h (by decide)]; rfl
theorem ga_43 {k : Nat} {F : Int32 → Option β} (h : k < 10) : (aI (mg 4625 I J R) 43 14 (Int32.ofNat (k))).bind F = F (I 43 k) := by rw [e_aI (a := 43) (by decide) (show KK 43 = (14, 10) from rfl) h (by decide)]; rfl
theorem gw_43 {k : Nat} {v : Int32} {F : xM → Option β} (h : k < 10) : (wI (mg 4625 I J R) 43 (Int32.ofNat (k)) v).bind F = F (mg 4625 (up I 43 k v) J R) := by rw [e_wI (a := 43) (by decide) (show KK 43 = (14, 10) from rfl) h (by decide)]; rfl
theorem ga_44 {k : Nat} {F : Int32 → Option β} (h : k < 10) : (aI (mg 4625 I J R) 44 14 (Int32.ofNat (k))).bind F = F (I 44 k) := by rw [e_aI (a := 44) (by decide) (show KK 44 = (14, 10) from rfl) h (by decide)]; rfl
theorem gw_44 {k : Nat} {v : Int32} {F : xM → Option β} (h : k < 10) : (wI (mg 4625 I J R) 44 (Int32.ofNat (k)) v).bind F = F (mg 4625 (up I 44 k v) J R) := by rw [e_wI (a := 44) (by decide) (show KK 44 = (14, 10) from rfl) h (by decide)]; rfl
theorem ga_45 {k : Nat} {F : Int32 → Option β} (h : k < 10) : (aI (mg 4625 I J R) 45 14 (Int32.ofNat (k))).bind F = F (I 45 k) := by rw [e_aI (a := 45) (by decide) (show KK 45 = (14, 10) from rfl) h (by decide)]; rfl
theorem gw_45 {k : Nat} {v : Int32} {F : xM → Option β} (h : k < 10) : (wI (mg 4625 I J R) 45 (Int32.ofNat (k)) v).bind F = F (mg 4625 (up I 45 k v) J R) := by rw [e_wI (a := 45) (by decide) (show KK 45 = (14, 10) from rfl) h (by decide)]; rfl
theorem ga_46 {k : Nat} {F : Int32 → Option β} (h : k < 20) : (aI (mg 4625 I J R) 46 14 (Int32.ofNat (k))).bind F = F (I 46 k) := by rw [e_aI (a := 46) (by decide) (show KK 46 = (14, 20) from rfl) h (by decide)]; rfl
theorem gw_46 {k : Nat} {v : Int32} {F : xM → Option β} (h : k < 20) : (wI (mg 4625 I J R) 46 (Int32.ofNat (k)) v).bind F = F (mg 4625 (up I 46 k v) J R) := by rw [e_wI (a := 46) (by decide) (show KK 46 = (14, 20) from rfl) h (by decide)]; rfl
theorem ga_47 {k : Nat} {F : Int32 → Option β} (h : k < 20) : (aI (mg 4625 I J R) 47 14 (Int32.ofNat (k))).bind F = F (I 47 k) := by rw [e_aI (a := 47) (by decide) (show KK 47 = (14, 20) from rfl) h (by decide)]; rfl
theorem gw_47 {k : Nat} {v : Int32} {F : xM → Option β} (h : k < 20) : (wI (mg 4625 I J R) 47 (Int32.ofNat (k)) v).bind F = F (mg 4625 (up I 47 k v) J R) := by rw [e_wI (a := 47) (by decide) (show KK 47 = (14, 20) from rfl) h (by decide)]; rfl
theorem ga_49 {k : Nat} {F : Int32 → Option β} (h : k < 10) : (aI (mg 4625 I J R) 49 14 (Int32.ofNat (k))).bind F = F (I 49 k) := by rw [e_aI (a := 49) (by decide) (show KK 49 = (14, 10) from rfl) h (by decide)]; rfl
theorem gw_49 {k : Nat} {v : Int32} {F : xM → Option β} (h : k < 10) : (wI (mg 4625 I J R) 49 (Int32.ofNat (k)) v).bind F = F (mg 4625 (up I 49 k v) J R) := by rw [e_wI (a := 49) (by decide) (show KK 49 = (14, 10) from rfl) h (by decide)]; rfl
theorem ga_50 {k : Nat} {F : Int32 → Option β} (h : k < 10) : (aI (mg 4625 I J R) 50 14 (Int32.ofNat (k))).bind F = F (I 50 k) := by rw [e_aI (a := 50) (by decide) (show KK 50 = (14, 10) from rfl) h (by decide)]; rfl
theorem gw_50 {k : Nat} {v : Int32} {F : xM → Option β} (h : k < 10) : (wI (mg 4625 I J R) 50 (Int32.ofNat (k)) v).bind F = F (mg 4625 (up I 50 k v) J R) := by rw [e_wI (a := 50) (by decide) (show KK 50 = (14, 10) from rfl) h (by decide)]; rfl
theorem ga_51 {k : Nat} {F : Int32 → Option β} (h : k < 10) : (aI (mg 4625 I J R) 51 14 (Int32.ofNat (k))).bind F = F (I 51 k) := by rw [e_aI (a := 51) (by decide) (show KK 51 = (14, 10) from rfl) h (by decide)]; rfl
theorem gw_51 {k : Nat} {v : Int32} {F : xM → Option β} (h : k < 10) : (wI (mg 4625 I J R) 51 (Int32.ofNat (k)) v).bind F = F (mg 4625 (up I 51 k v) J R) := by rw [e_wI (a := 51) (by decide) (show KK 51 = (14, 10) from rfl) h (by decide)]; rfl
theorem ga_52 {k : Nat} {F : Int32 → Option β} (h : k < 10) : (aI (mg 4625 I J R) 52 14 (Int32.ofNat (k))).bind F = F (I 52 k) := by rw [e_aI (a := 52) (by decide) (show KK 52 = (14, 10) from rfl) h (by decide)]; rfl
theorem gw_52 {k : Nat} {v : Int32} {F : xM → Option β} (h : k < 10) : (wI (mg 4625 I J R) 52 (Int32.ofNat (k)) v).bind F = F (mg 4625 (up I 52 k v) J R) := by rw [e_wI (a := 52) (by decide) (show KK 52 = (14, 10) from rfl) h (by decide)]; rfl
theorem ga_53 {k : Nat} {F : Int32 → Option β} (h : k < 10) : (aI (mg 4625 I J R) 53 14 (Int32.ofNat (k))).bind F = F (I 53 k) := by rw [e_aI (a := 53) (by decide) (show KK 53 = (14, 10) from rfl) h (by decide)]; rfl
theorem gw_53 {k : Nat} {v : Int32} {F : xM → Option β} (h : k < 10) : (wI (mg 4625 I J R) 53 (Int32.ofNat (k)) v).bind F = F (mg 4625 (up I 53 k v) J R) := by rw [e_wI (a := 53) (by decide) (show KK 53 = (14, 10) from rfl) h (by decide)]; rfl
theorem ga_54 {k : Nat} {F : Int32 → Option β} (h : k < 10) : (aI (mg 4625 I J R) 54 14 (Int32.ofNat (k))).bind F = F (I 54 k) := by rw [e_aI (a := 54) (by decide) (show KK 54 = (14, 10) from rfl) h (by decide)]; rfl
theorem gw_54 {k : Nat} {v : Int32} {F : xM → Option β} (h : k < 10) : (wI (mg 4625 I J R) 54 (Int32.ofNat (k)) v).bind F = F (mg 4625 (up I 54 k v) J R) := by rw [e_wI (a := 54) (by decide) (show KK 54 = (14, 10) from rfl) h (by decide)]; rfl
theorem ga_55 {k : Nat} {F : Int32 → Option β} (h : k < 10) : (aI (mg 4625 I J R) 55 14 (Int32.ofNat (k))).bind F = F (I 55 k) := by rw [e_aI (a := 55) (by decide) (show KK 55 = (14, 10) from rfl) h (by decide)]; rfl
theorem gw_55 {k : Nat} {v : Int32} {F : xM → Option β} (h : k < 10) : (wI (mg 4625 I J R) 55 (Int32.ofNat (k)) v).bind F = F (mg 4625 (up I 55 k v) J R) := by rw [e_wI (a := 55) (by decide) (show KK 55 = (14, 10) from rfl) h (by decide)]; rfl
theorem ga_56 {k : Nat} {F : Int32 → Option β} (h : k < 10) : (aI (mg 4625 I J R) 56 14 (Int32.ofNat (k))).bind F = F (I 56 k) := by rw [e_aI (a := 56) (by decide) (show KK 56 = (14, 10) from rfl) h (by decide)]; rfl
theorem gw_56 {k : Nat} {v : Int32} {F : xM → Option β} (h : k < 10) : (wI (mg 4625 I J R) 56 (Int32.ofNat (k)) v).bind F = F (mg 4625 (up I 56 k v) J R) := by rw [e_wI (a := 56) (by decide) (show KK 56 = (14, 10) from rfl) h (by decide)]; rfl
theorem ga_57 {k : Nat} {F : Int32 → Option β} (h : k < 10) : (aI (mg 4625 I J R) 57 14 (Int32.ofNat (k))).bind F = F (I 57 k) := by rw [e_aI (a := 57) (by decide) (show KK 57 = (14, 10) from rfl) h (by decide)]; rfl
theorem gw_57 {k : Nat} {v : Int32} {F : xM → Option β} (h : k < 10) : (wI (mg 4625 I J R) 57 (Int32.ofNat (k)) v).bind F = F (mg 4625 (up I 57 k v) J R) := by rw [e_wI (a := 57) (by decide) (show KK 57 = (14, 10) from rfl) h (by decide)]; rfl
theorem ga_58 {k : Nat} {F : Int32 → Option β} (h : k < 10) : (aI (mg 4625 I J R) 58 14 (Int32.ofNat (k))).bind F = F (I 58 k) := by rw [e_aI (a := 58) (by decide) (show KK 58 = (14, 10) from rfl) h (by decide)]; rfl
theorem gw_58 {k : Nat} {v : Int32} {F : xM → Option β} (h : k < 10) : (wI (mg 4625 I J R) 58 (Int32.ofNat (k)) v).bind F = F (mg 4625 (up I 58 k v) J R) := by rw [e_wI (a := 58) (by decide) (show KK 58 = (14, 10) from rfl) h (by decide)]; rfl
theorem ga_59 {k : Nat} {F : Int32 → Option β} (h : k < 10) : (aI (mg 4625 I J R) 59 14 (Int32.ofNat (k))).bind F = F (I 59 k) := by rw [e_aI (a := 59) (by decide) (show KK 59 = (14, 10) from rfl) h (by decide)]; rfl
theorem gw_59 {k : Nat} {v : Int32} {F : xM → Option β} (h : k < 10) : (wI (mg 4625 I J R) 59 (Int32.ofNat (k)) v).bind F = F (mg 4625 (up I 59 k v) J R) := by rw [e_wI (a := 59) (by decide) (show KK 59 = (14, 10) from rfl) h (by decide)]; rfl
theorem ga_60 {k : Nat} {F : Int32 → Option β} (h : k < 10) : (aI (mg 4625 I J R) 60 14 (Int32.ofNat (k))).bind F = F (I 60 k) := by rw [e_aI (a := 60) (by decide) (show KK 60 = (14, 10) from rfl) h (by decide)]; rfl
theorem gw_60 {k : Nat} {v : Int32} {F : xM → Option β} (h : k < 10) : (wI (mg 4625 I J R) 60 (Int32.ofNat (k)) v).bind F = F (mg 4625 (up I 60 k v) J R) := by rw [e_wI (a := 60) (by decide) (show KK 60 = (14, 10) from rfl) h (by decide)]; rfl
theorem ga_61 {k : Nat} {F : Int32 → Option β} (h : k < 10) : (aI (mg 4625 I J R) 61 14 (Int32.ofNat (k))).bind F = F (I 61 k) := by rw [e_aI (a := 61) (by decide) (show KK 61 = (14, 10) from rfl) h (by decide)]; rfl
theorem gw_61 {k : Nat} {v : Int32} {F : xM → Option β} (h : k < 10) : (wI (mg 4625 I J R) 61 (Int32.ofNat (k)) v).bind F = F (mg 4625 (up I 61 k v) J R) := by rw [e_wI (a := 61) (by decide) (show KK 61 = (14, 10) from rfl) h (by decide)]; rfl
theorem ga_62 {k : Nat} {F : Int32 → Option β} (h : k < 10) : (aI (mg 4625 I J R) 62 14 (Int32.ofNat (k))).bind F = F (I 62 k) := by rw [e_aI (a := 62) (by decide) (show KK 62 = (14, 10) from rfl) h (by decide)]; rfl
theorem gw_62 {k : Nat} {v : Int32} {F : xM → Option β} (h : k < 10) : (wI (mg 4625 I J R) 62 (Int32.ofNat (k)) v).bind F = F (mg 4625 (up I 62 k v) J R) := by rw [e_wI (a := 62) (by decide) (show KK 62 = (14, 10) from rfl) h (by decide)]; rfl
theorem ga_63 {k : Nat} {F : Int32 → Option β} (h : k < 10) : (aI (mg 4625 I J R) 63 14 (Int32.ofNat (k))).bind F = F (I 63 k) := by rw [e_aI (a := 63) (by decide) (show KK 63 = (14, 10) from rfl) h (by decide)]; rfl
theorem gw_63 {k : Nat} {v : Int32} {F : xM → Option β} (h : k < 10) : (wI (mg 4625 I J R) 63 (Int32.ofNat (k)) v).bind F = F (mg 4625 (up I 63 k v) J R) := by rw [e_wI (a := 63) (by decide) (show KK 63 = (14, 10) from rfl) h (by decide)]; rfl
theorem ga_64 {k : Nat} {F : Int32 → Option β} (h : k < 10) : (aI (mg 4625 I J R) 64 14 (Int32.ofNat (k))).bind F = F (I 64 k) := by rw [e_aI (a := 64) (by decide) (show KK 64 = (14, 10) from rfl) h (by decide)]; rfl
theorem gw_64 {k : Nat} {v : Int32} {F : xM → Option β} (h : k < 10) : (wI (mg 4625 I J R) 64 (Int32.ofNat (k)) v).bind F = F (mg 4625 (up I 64 k v) J R) := by rw [e_wI (a := 64) (by decide) (show KK 64 = (14, 10) from rfl) h (by decide)]; rfl
theorem ga_65 {k : Nat} {F : Int32 → Option β} (h : k < 10) : (aI (mg 4625 I J R) 65 14 (Int32.ofNat (k))).bind F = F (I 65 k) := by rw [e_aI (a := 65) (by decide) (show KK 65 = (14, 10) from rfl) h (by decide)]; rfl
theorem gw_65 {k : Nat} {v : Int32} {F : xM → Option β} (h : k < 10) : (wI (mg 4625 I J R) 65 (Int32.ofNat (k)) v).bind F = F (mg 4625 (up I 65 k v) J R) := by rw [e_wI (a := 65) (by decide) (show KK 65 = (14, 10) from rfl) h (by decide)]; rfl
theorem ga_66 {k : Nat} {F : Int32 → Option β} (h : k < 10) : (aI (mg 4625 I J R) 66 14 (Int32.ofNat (k))).bind F = F (I 66 k) := by rw [e_aI (a := 66) (by decide) (show KK 66 = (14, 10) from rfl) h (by decide)]; rfl
theorem gw_66 {k : Nat} {v : Int32} {F : xM → Option β} (h : k < 10) : (wI (mg 4625 I J R) 66 (Int32.ofNat (k)) v).bind F = F (mg 4625 (up I 66 k v) J R) := by rw [e_wI (a := 66) (by decide) (show KK 66 = (14, 10) from rfl) h (by decide)]; rfl
theorem ga_67 {k : Nat} {F : Int32 → Option β} (h : k < 10) : (aI (mg 4625 I J R) 67 14 (Int32.ofNat (k))).bind F = F (I 67 k) := by rw [e_aI (a := 67) (by decide) (show KK 67 = (14, 10) from rfl) h (by decide)]; rfl
theorem gw_67 {k : Nat} {v : Int32} {F : xM → Option β} (h : k < 10) : (wI (mg 4625 I J R) 67 (Int32.ofNat (k)) v).bind F = F (mg 4625 (up I 67 k v) J R) := by rw [e_wI (a := 67) (by decide) (show KK 67 = (14, 10) from rfl) h (by decide)]; rfl
theorem ga_68 {k : Nat} {F : Int32 → Option β} (h : k < 10) : (aI (mg 4625 I J R) 68 14 (Int32.ofNat (k))).bind F = F (I 68 k) := by rw [e_aI (a := 68) (by decide) (show KK 68 = (14, 10) from rfl) h (by decide)]; rfl
theorem gw_68 {k : Nat} {v : Int32} {F : xM → Option β} (h : k < 10) : (wI (mg 4625 I J R) 68 (Int32.ofNat (k)) v).bind F = F (mg 4625 (up I 68 k v) J R) := by rw [e_wI (a := 68) (by decide) (show KK 68 = (14, 10) from rfl) h (by decide)]; rfl
theorem ga_541 {k : Nat} {F : Int32 → Option β} (h : k < 300) : (aI (mg 4625 I J R) 541 14 (Int32.ofNat (k))).bind F = F (I 541 k) := by rw [e_aI (a := 541) (by decide) (show KK 541 = (14, 300) from rfl) h (by decide)]; rfl
theorem gw_541 {k : Nat} {v : Int32} {F : xM → Option β} (h : k < 300) : (wI (mg 4625 I J R) 541 (Int32.ofNat (k)) v).bind F = F (mg 4625 (up I 541 k v) J R) := by rw [e_wI (a := 541) (by decide) (show KK 541 = (14, 300) from rfl) h (by decide)]; rfl
theorem ga_542 {k : Nat} {F : Int32 → Option β} (h : k < 300) : (aI (mg 4625 I J R) 542 14 (Int32.ofNat (k))).bind F = F (I 542 k) := by rw [e_aI (a := 542) (by decide) (show KK 542 = (14, 300) from rfl) h (by decide)]; rfl
theorem gw_542 {k : Nat} {v : Int32} {F : xM → Option β} (h : k < 300) : (wI (mg 4625 I J R) 542 (Int32.ofNat (k)) v).bind F = F (mg 4625 (up I 542 k v) J R) := by rw [e_wI (a := 542) (by decide) (show KK 542 = (14, 300) from rfl) h (by decide)]; rfl
theorem ga_543 {k : Nat} {F : Int32 → Option β} (h : k < 300) : (aI (mg 4625 I J R) 543 14 (Int32.ofNat (k))).bind F = F (I 543 k) := by rw [e_aI (a := 543) (by decide) (show KK 543 = (14, 300) from rfl) h (by decide)]; rfl
theorem gw_543 {k : Nat} {v : Int32} {F : xM → Option β} (h : k < 300) : (wI (mg 4625 I J R) 543 (Int32.ofNat (k)) v).bind F = F (mg 4625 (up I 543 k v) J R) := by rw [e_wI (a := 543) (by decide) (show KK 543 = (14, 300) from rfl) h (by decide)]; rfl
theorem ga_544 {k : Nat} {F : Int32 → Option β} (h : k < 300) : (aI (mg 4625 I J R) 544 15 (Int32.ofNat (k))).bind F = F (I 544 k) := by rw [e_aI (a := 544) (by decide) (show KK 544 = (15, 300) from rfl) h (by decide)]; rfl
theorem gz_544 {k : Nat} {v : Int32} {F : xM → Option β} (h : k < 300) (hv : (v == 0 || v == 1) = true) : (wZ (mg 4625 I J R) 544 (Int32.ofNat (k)) v).bind F = F (mg 4625 (up I 544 k v) J R) := by rw [owZ_544, if_pos (by rw [hv, xvi_nat h (by decide)]; rfl), i32_nat (by omega)]; rfl
theorem ga_545 {k : Nat} {F : Int32 → Option β} (h : k < 300) : (aI (mg 4625 I J R) 545 14 (Int32.ofNat (k))).bind F = F (I 545 k) := by rw [e_aI (a := 545) (by decide) (show KK 545 = (14, 300) from rfl) h (by decide)]; rfl
theorem gw_545 {k : Nat} {v : Int32} {F : xM → Option β} (h : k < 300) : (wI (mg 4625 I J R) 545 (Int32.ofNat (k)) v).bind F = F (mg 4625 (up I 545 k v) J R) := by rw [e_wI (a := 545) (by decide) (show KK 545 = (14, 300) from rfl) h (by decide)]; rfl
theorem ga_546 {k : Nat} {F : Int32 → Option β} (h : k < 300) : (aI (mg 4625 I J R) 546 14 (Int32.ofNat (k))).bind F = F (I 546 k) := by rw [e_aI (a := 546) (by decide) (show KK 546 = (14, 300) from rfl) h (by decide)]; rfl
theorem gw_546 {k : Nat} {v : Int32} {F : xM → Option β} (h : k < 300) : (wI (mg 4625 I J R) 546 (Int32.ofNat (k)) v).bind F = F (mg 4625 (up I 546 k v) J R) := by rw [e_wI (a := 546) (by decide) (show KK 546 = (14, 300) from rfl) h (by decide)]; rfl
theorem ga_547 {k : Nat} {F : Int32 → Option β} (h : k < 300) : (aI (mg 4625 I J R) 547 14 (Int32.ofNat (k))).bind F = F (I 547 k) := by rw [e_aI (a := 547) (by decide) (show KK 547 = (14, 300) from rfl) h (by decide)]; rfl
theorem gw_547 {k : Nat} {v : Int32} {F : xM → Option β} (h : k < 300) : (wI (mg 4625 I J R) 547 (Int32.ofNat (k)) v).bind F = F (mg 4625 (up I 547 k v) J R) := by rw [e_wI (a := 547) (by decide) (show KK 547 = (14, 300) from rfl) h (by decide)]; rfl
theorem ga_548 {k : Nat} {F : Int32 → Option β} (h : k < 300) : (aI (mg 4625 I J R) 548 14 (Int32.ofNat (k))).bind F = F (I 548 k) := by rw [e_aI (a := 548) (by decide) (show KK 548 = (14, 300) from rfl) h (by decide)]; rfl
theorem gw_548 {k : Nat} {v : Int32} {F : xM → Option β} (h : k < 300) : (wI (mg 4625 I J R) 548 (Int32.ofNat (k)) v).bind F = F (mg 4625 (up I 548 k v) J R) := by rw [e_wI (a := 548) (by decide) (show KK 548 = (14, 300) from rfl) h (by decide)]; rfl
theorem ga_549 {k : Nat} {F : Int32 → Option β} (h : k < 300) : (aI (mg 4625 I J R) 549 14 (Int32.ofNat (k))).bind F = F (I 549 k) := by rw [e_aI (a := 549) (by decide) (show KK 549 = (14, 300) from rfl) h (by decide)]; rfl
theorem gw_549 {k : Nat} {v : Int32} {F : xM → Option β} (h : k < 300) : (wI (mg 4625 I J R) 549 (Int32.ofNat (k)) v).bind F = F (mg 4625 (up I 549 k v) J R) := by rw [e_wI (a := 549) (by decide) (show KK 549 = (14, 300) from rfl) h (by decide)]; rfl
theorem ga_550 {k : Nat} {F : Int32 → Option β} (h : k < 300) : (aI (mg 4625 I J R) 550 14 (Int32.ofNat (k))).bind F = F (I 550 k) := by rw [e_aI (a := 550) (by decide) (show KK 550 = (14, 300) from rfl) h (by decide)]; rfl
theorem gw_550 {k : Nat} {v : Int32} {F : xM → Option β} (h : k < 300) : (wI (mg 4625 I J R) 550 (Int32.ofNat (k)) v).bind F = F (mg 4625 (up I 550 k v) J R) := by rw [e_wI (a := 550) (by decide) (show KK 550 = (14, 300) from rfl) h (by decide)]; rfl
theorem ga_552 {k : Nat} {F : Int32 → Option β} (h : k < 80) : (aI (mg 4625 I J R) 552 14 (Int32.ofNat (k))).bind F = F (I 552 k) := by rw [e_aI (a := 552) (by decide) (show KK 552 = (14, 80) from rfl) h (by decide)]; rfl
theorem gw_552 {k : Nat} {v : Int32} {F : xM → Option β} (h : k < 80) : (wI (mg 4625 I J R) 552 (Int32.ofNat (k)) v).bind F = F (mg 4625 (up I 552 k v) J R) := by rw [e_wI (a := 552) (by decide) (show KK 552 = (14, 80) from rfl) h (by decide)]; rfl
theorem ga_553 {k : Nat} {F : Int32 → Option β} (h : k < 80) : (aI (mg 4625 I J R) 553 14 (Int32.ofNat (k))).bind F = F (I 553 k) := by rw [e_aI (a := 553) (by decide) (show KK 553 = (14, 80) from rfl) h (by decide)]; rfl
theorem gw_553 {k : Nat} {v : Int32} {F : xM → Option β} (h : k < 80) : (wI (mg 4625 I J R) 553 (Int32.ofNat (k)) v).bind F = F (mg 4625 (up I 553 k v) J R) := by rw [e_wI (a := 553) (by decide) (show KK 553 = (14, 80) from rfl) h (by decide)]; rfl
theorem ga_554 {k : Nat} {F : Int32 → Option β} (h : k < 80) : (aI (mg 4625 I J R) 554 14 (Int32.ofNat (k))).bind F = F (I 554 k) := by rw [e_aI (a := 554) (by decide) (show KK 554 = (14, 80) from rfl) h (by decide)]; rfl
theorem gw_554 {k : Nat} {v : Int32} {F : xM → Option β} (h : k < 80) : (wI (mg 4625 I J R) 554 (Int32.ofNat (k)) v).bind F = F (mg 4625 (up I 554 k v) J R) := by rw [e_wI (a := 554) (by decide) (show KK 554 = (14, 80) from rfl) h (by decide)]; rfl
theorem ga_555 {k : Nat} {F : Int32 → Option β} (h : k < 80) : (aI (mg 4625 I J R) 555 14 (Int32.ofNat (k))).bind F = F (I 555 k) := by rw [e_aI (a := 555) (by decide) (show KK 555 = (14, 80) from rfl) h (by decide)]; rfl
theorem gw_555 {k : Nat} {v : Int32} {F : xM → Option β} (h : k < 80) : (wI (mg 4625 I J R) 555 (Int32.ofNat (k)) v).bind F = F (mg 4625 (up I 555 k v) J R) := by rw [e_wI (a := 555) (by decide) (show KK 555 = (14, 80) from rfl) h (by decide)]; rfl
theorem ga_556 {k : Nat} {F : Int32 → Option β} (h : k < 80) : (aI (mg 4625 I J R) 556 14 (Int32.ofNat (k))).bind F = F (I 556 k) := by rw [e_aI (a := 556) (by decide) (show KK 556 = (14, 80) from rfl) h (by decide)]; rfl
theorem gw_556 {k : Nat} {v : Int32} {F : xM → Option β} (h : k < 80) : (wI (mg 4625 I J R) 556 (Int32.ofNat (k)) v).bind F = F (mg 4625 (up I 556 k v) J R) := by rw [e_wI (a := 556) (by decide) (show KK 556 = (14, 80) from rfl) h (by decide)]; rfl
theorem ga_557 {k : Nat} {F : Int32 → Option β} (h : k < 80) : (aI (mg 4625 I J R) 557 14 (Int32.ofNat (k))).bind F = F (I 557 k) := by rw [e_aI (a := 557) (by decide) (show KK 557 = (14, 80) from rfl) h (by decide)]; rfl
theorem gw_557 {k : Nat} {v : Int32} {F : xM → Option β} (h : k < 80) : (wI (mg 4625 I J R) 557 (Int32.ofNat (k)) v).bind F = F (mg 4625 (up I 557 k v) J R) := by rw [e_wI (a := 557) (by decide) (show KK 557 = (14, 80) from rfl) h (by decide)]; rfl
theorem ga_558 {k : Nat} {F : Int32 → Option β} (h : k < 80) : (aI (mg 4625 I J R) 558 14 (Int32.ofNat (k))).bind F = F (I 558 k) := by rw [e_aI (a := 558) (by decide) (show KK 558 = (14, 80) from rfl) h (by decide)]; rfl
theorem gw_558 {k : Nat} {v : Int32} {F : xM → Option β} (h : k < 80) : (wI (mg 4625 I J R) 558 (Int32.ofNat (k)) v).bind F = F (mg 4625 (up I 558 k v) J R) := by rw [e_wI (a := 558) (by decide) (show KK 558 = (14, 80) from rfl) h (by decide)]; rfl
theorem ga_561 {k : Nat} {F : Int32 → Option β} (h : k < 7) : (aI (mg 4625 I J R) 561 14 (Int32.ofNat (k))).bind F = F (I 561 k) := by rw [e_aI (a := 561) (by decide) (show KK 561 = (14, 7) from rfl) h (by decide)]; rfl
theorem gw_561 {k : Nat} {v : Int32} {F : xM → Option β} (h : k < 7) : (wI (mg 4625 I J R) 561 (Int32.ofNat (k)) v).bind F = F (mg 4625 (up I 561 k v) J R) := by rw [e_wI (a := 561) (by decide) (show KK 561 = (14, 7) from rfl) h (by decide)]; rfl
theorem ga_562 {k : Nat} {F : Int32 → Option β} (h : k < 1000) : (aI (mg 4625 I J R) 562 13 (Int32.ofNat (k))).bind F = F (I 562 k) := by rw [e_aI (a := 562) (by decide) (show KK 562 = (13, 1000) from rfl) h (by decide)]; rfl
theorem gcw_562 {k : Nat} {v : Int32} {F : xM → Option β} (h : k < 1000) : (wC (mg 4625 I J R) 562 (Int32.ofNat (k)) v).bind F = F (mg 4625 (up I 562 k (vp_nar .char v)) J R) := by rw [owC_562, if_pos (xvi_nat h (by decide)), i32_nat (by omega)]; rfl
theorem ga_565 {k : Nat} {F : Int32 → Option β} (h : k < 7) : (aI (mg 4625 I J R) 565 14 (Int32.ofNat (k))).bind F = F (I 565 k) := by rw [e_aI (a := 565) (by decide) (show KK 565 = (14, 7) from rfl) h (by decide)]; rfl
theorem gw_565 {k : Nat} {v : Int32} {F : xM → Option β} (h : k < 7) : (wI (mg 4625 I J R) 565 (Int32.ofNat (k)) v).bind F = F (mg 4625 (up I 565 k v) J R) := by rw [e_wI (a := 565) (by decide) (show KK 565 = (14, 7) from rfl) h (by decide)]; rfl
theorem ga_566 {k : Nat} {F : Int32 → Option β} (h : k < 1000) : (aI (mg 4625 I J R) 566 13 (Int32.ofNat (k))).bind F = F (I 566 k) := by rw [e_aI (a := 566) (by decide) (show KK 566 = (13, 1000) from rfl) h (by decide)]; rfl
theorem gcw_566 {k : Nat} {v : Int32} {F : xM → Option β} (h : k < 1000) : (wC (mg 4625 I J R) 566 (Int32.ofNat (k)) v).bind F = F (mg 4625 (up I 566 k (vp_nar .char v)) J R) := by rw [owC_566, if_pos (xvi_nat h (by decide)), i32_nat (by omega)]; rfl
theorem ga_571 {k : Nat} {F : Int32 → Option β} (h : k < 100) : (aI (mg 4625 I J R) 571 14 (Int32.ofNat (k))).bind F = F (I 571 k) := by rw [e_aI (a := 571) (by decide) (show KK 571 = (14, 100) from rfl) h (by decide)]; rfl
theorem gw_571 {k : Nat} {v : Int32} {F : xM → Option β} (h : k < 100) : (wI (mg 4625 I J R) 571 (Int32.ofNat (k)) v).bind F = F (mg 4625 (up I 571 k v) J R) := by rw [e_wI (a := 571) (by decide) (show KK 571 = (14, 100) from rfl) h (by decide)]; rfl
theorem ga_573 {k : Nat} {F : Int32 → Option β} (h : k < 100) : (aI (mg 4625 I J R) 573 14 (Int32.ofNat (k))).bind F = F (I 573 k) := by rw [e_aI (a := 573) (by decide) (show KK 573 = (14, 100) from rfl) h (by decide)]; rfl
theorem gw_573 {k : Nat} {v : Int32} {F : xM → Option β} (h : k < 100) : (wI (mg 4625 I J R) 573 (Int32.ofNat (k)) v).bind F = F (mg 4625 (up I 573 k v) J R) := by rw [e_wI (a := 573) (by decide) (show KK 573 = (14, 100) from rfl) h (by decide)]; rfl
theorem ga_574 {k : Nat} {F : Int32 → Option β} (h : k < 480) : (aI (mg 4625 I J R) 574 14 (Int32.ofNat (k))).bind F = F (I 574 k) := by rw [e_aI (a := 574) (by decide) (show KK 574 = (14, 480) from rfl) h (by decide)]; rfl
theorem gw_574 {k : Nat} {v : Int32} {F : xM → Option β} (h : k < 480) : (wI (mg 4625 I J R) 574 (Int32.ofNat (k)) v).bind F = F (mg 4625 (up I 574 k v) J R) := by rw [e_wI (a := 574) (by decide) (show KK 574 = (14, 480) from rfl) h (by decide)]; rfl
theorem ga_576 {k : Nat} {F : Int32 → Option β} (h : k < 480) : (aI (mg 4625 I J R) 576 14 (Int32.ofNat (k))).bind F = F (I 576 k) := by rw [e_aI (a := 576) (by decide) (show KK 576 = (14, 480) from rfl) h (by decide)]; rfl
theorem gw_576 {k : Nat} {v : Int32} {F : xM → Option β} (h : k < 480) : (wI (mg 4625 I J R) 576 (Int32.ofNat (k)) v).bind F = F (mg 4625 (up I 576 k v) J R) := by rw [e_wI (a := 576) (by decide) (show KK 576 = (14, 480) from rfl) h (by decide)]; rfl
theorem ga_577 {k : Nat} {F : Int32 → Option β} (h : k < 480) : (aI (mg 4625 I J R) 577 14 (Int32.ofNat (k))).bind F = F (I 577 k) := by rw [e_aI (a := 577) (by decide) (show KK 577 = (14, 480) from rfl) h (by decide)]; rfl
theorem gw_577 {k : Nat} {v : Int32} {F : xM → Option β} (h : k < 480) : (wI (mg 4625 I J R) 577 (Int32.ofNat (k)) v).bind F = F (mg 4625 (up I 577 k v) J R) := by rw [e_wI (a := 577) (by decide) (show KK 577 = (14, 480) from rfl) h (by decide)]; rfl
theorem ga_578 {k : Nat} {F : Int32 → Option β} (h : k < 480) : (aI (mg 4625 I J R) 578 14 (Int32.ofNat (k))).bind F = F (I 578 k) := by rw [e_aI (a := 578) (by decide) (show KK 578 = (14, 480) from rfl) h (by decide)]; rfl
theorem gw_578 {k : Nat} {v : Int32} {F : xM → Option β} (h : k < 480) : (wI (mg 4625 I J R) 578 (Int32.ofNat (k)) v).bind F = F (mg 4625 (up I 578 k v) J R) := by rw [e_wI (a := 578) (by decide) (show KK 578 = (14, 480) from rfl) h (by decide)]; rfl
theorem ga_579 {k : Nat} {F : Int32 → Option β} (h : k < 480) : (aI (mg 4625 I J R) 579 14 (Int32.ofNat (k))).bind F = F (I 579 k) := by rw [e_aI (a := 579) (by decide) (show KK 579 = (14, 480) from rfl) h (by decide)]; rfl
theorem gw_579 {k : Nat} {v : Int32} {F : xM → Option β} (h : k < 480) : (wI (mg 4625 I J R) 579 (Int32.ofNat (k)) v).bind F = F (mg 4625 (up I 579 k v) J R) := by rw [e_wI (a := 579) (by decide) (show KK 579 = (14, 480) from rfl) h (by decide)]; rfl
theorem ga_580 {k : Nat} {F : Int32 → Option β} (h : k < 240) : (aI (mg 4625 I J R) 580 14 (Int32.ofNat (k))).bind F = F (I 580 k) := by rw [e_aI (a := 580) (by decide) (show KK 580 = (14, 240) from rfl) h (by decide)]; rfl
theorem gw_580 {k : Nat} {v : Int32} {F : xM → Option β} (h : k < 240) : (wI (mg 4625 I J R) 580 (Int32.ofNat (k)) v).bind F = F (mg 4625 (up I 580 k v) J R) := by rw [e_wI (a := 580) (by decide) (show KK 580 = (14, 240) from rfl) h (by decide)]; rfl
theorem ga_581 {k : Nat} {F : Int32 → Option β} (h : k < 240) : (aI (mg 4625 I J R) 581 14 (Int32.ofNat (k))).bind F = F (I 581 k) := by rw [e_aI (a := 581) (by decide) (show KK 581 = (14, 240) from rfl) h (by decide)]; rfl
theorem gw_581 {k : Nat} {v : Int32} {F : xM → Option β} (h : k < 240) : (wI (mg 4625 I J R) 581 (Int32.ofNat (k)) v).bind F = F (mg 4625 (up I 581 k v) J R) := by rw [e_wI (a := 581) (by decide) (show KK 581 = (14, 240) from rfl) h (by decide)]; rfl
theorem ga_582 {k : Nat} {F : Int32 → Option β} (h : k < 240) : (aI (mg 4625 I J R) 582 14 (Int32.ofNat (k))).bind F = F (I 582 k) := by rw [e_aI (a := 582) (by decide) (show KK 582 = (14, 240) from rfl) h (by decide)]; rfl
theorem gw_582 {k : Nat} {v : Int32} {F : xM → Option β} (h : k < 240) : (wI (mg 4625 I J R) 582 (Int32.ofNat (k)) v).bind F = F (mg 4625 (up I 582 k v) J R) := by rw [e_wI (a := 582) (by decide) (show KK 582 = (14, 240) from rfl) h (by decide)]; rfl
theorem ga_583 {k : Nat} {F : Int32 → Option β} (h : k < 240) : (aI (mg 4625 I J R) 583 14 (Int32.ofNat (k))).bind F = F (I 583 k) := by rw [e_aI (a := 583) (by decide) (show KK 583 = (14, 240) from rfl) h (by decide)]; rfl
theorem gw_583 {k : Nat} {v : Int32} {F : xM → Option β} (h : k < 240) : (wI (mg 4625 I J R) 583 (Int32.ofNat (k)) v).bind F = F (mg 4625 (up I 583 k v) J R) := by rw [e_wI (a := 583) (by decide) (show KK 583 = (14, 240) from rfl) h (by decide)]; rfl
theorem ga_1788 {k : Nat} {F : Int32 → Option β} (h : k < 7) : (aI (mg 4625 I J R) 1788 14 (Int32.ofNat (k))).bind F = F (I 1788 k) := by rw [e_aI (a := 1788) (by decide) (show KK 1788 = (14, 7) from rfl) h (by decide)]; rfl
theorem gw_1788 {k : Nat} {v : Int32} {F : xM → Option β} (h : k < 7) : (wI (mg 4625 I J R) 1788 (Int32.ofNat (k)) v).bind F = F (mg 4625 (up I 1788 k v) J R) := by rw [e_wI (a := 1788) (by decide) (show KK 1788 = (14, 7) from rfl) h (by decide)]; rfl
theorem ga_1790 {k : Nat} {F : Int32 → Option β} (h : k < 7) : (aI (mg 4625 I J R) 1790 14 (Int32.ofNat (k))).bind F = F (I 1790 k) := by rw [e_aI (a := 1790) (by decide) (show KK 1790 = (14, 7) from rfl) h (by decide)]; rfl
theorem gw_1790 {k : Nat} {v : Int32} {F : xM → Option β} (h : k < 7) : (wI (mg 4625 I J R) 1790 (Int32.ofNat (k)) v).bind F = F (mg 4625 (up I 1790 k v) J R) := by rw [e_wI (a := 1790) (by decide) (show KK 1790 = (14, 7) from rfl) h (by decide)]; rfl
theorem ga_1793 {k : Nat} {F : Int32 → Option β} (h : k < 7) : (aI (mg 4625 I J R) 1793 14 (Int32.ofNat (k))).bind F = F (I 1793 k) := by rw [e_aI (a := 1793) (by decide) (show KK 1793 = (14, 7) from rfl) h (by decide)]; rfl
theorem gw_1793 {k : Nat} {v : Int32} {F : xM → Option β} (h : k < 7) : (wI (mg 4625 I J R) 1793 (Int32.ofNat (k)) v).bind F = F (mg 4625 (up I 1793 k v) J R) := by rw [e_wI (a := 1793) (by decide) (show KK 1793 = (14, 7) from rfl) h (by decide)]; rfl
theorem ga_1795 {k : Nat} {F : Int32 → Option β} (h : k < 7) : (aI (mg 4625 I J R) 1795 14 (Int32.ofNat (k))).bind F = F (I 1795 k) := by rw [e_aI (a := 1795) (by decide) (show KK 1795 = (14, 7) from rfl) h (by decide)]; rfl
theorem gw_1795 {k : Nat} {v : Int32} {F : xM → Option β} (h : k < 7) : (wI (mg 4625 I J R) 1795 (Int32.ofNat (k)) v).bind F = F (mg 4625 (up I 1795 k v) J R) := by rw [e_wI (a := 1795) (by decide) (show KK 1795 = (14, 7) from rfl) h (by decide)]; rfl
theorem ga_1798 {k : Nat} {F : Int32 → Option β} (h : k < 100) : (aI (mg 4625 I J R) 1798 14 (Int32.ofNat (k))).bind F = F (I 1798 k) := by rw [e_aI (a := 1798) (by decide) (show KK 1798 = (14, 100) from rfl) h (by decide)]; rfl
theorem gw_1798 {k : Nat} {v : Int32} {F : xM → Option β} (h : k < 100) : (wI (mg 4625 I J R) 1798 (Int32.ofNat (k)) v).bind F = F (mg 4625 (up I 1798 k v) J R) := by rw [e_wI (a := 1798) (by decide) (show KK 1798 = (14, 100) from rfl) h (by decide)]; rfl
theorem ga_1800 {k : Nat} {F : Int32 → Option β} (h : k < 100) : (aI (mg 4625 I J R) 1800 14 (Int32.ofNat (k))).bind F = F (I 1800 k) := by rw [e_aI (a := 1800) (by decide) (show KK 1800 = (14, 100) from rfl) h (by decide)]; rfl
theorem gw_1800 {k : Nat} {v : Int32} {F : xM → Option β} (h : k < 100) : (wI (mg 4625 I J R) 1800 (Int32.ofNat (k)) v).bind F = F (mg 4625 (up I 1800 k v) J R) := by rw [e_wI (a := 1800) (by decide) (show KK 1800 = (14, 100) from rfl) h (by decide)]; rfl
theorem ga_1803 {k : Nat} {F : Int32 → Option β} (h : k < 100) : (aI (mg 4625 I J R) 1803 14 (Int32.ofNat (k))).bind F = F (I 1803 k) := by rw [e_aI (a := 1803) (by decide) (show KK 1803 = (14, 100) from rfl) h (by decide)]; rfl
theorem gw_1803 {k : Nat} {v : Int32} {F : xM → Option β} (h : k < 100) : (wI (mg 4625 I J R) 1803 (Int32.ofNat (k)) v).bind F = F (mg 4625 (up I 1803 k v) J R) := by rw [e_wI (a := 1803) (by decide) (show KK 1803 = (14, 100) from rfl) h (by decide)]; rfl
theorem ga_1805 {k : Nat} {F : Int32 → Option β} (h : k < 100) : (aI (mg 4625 I J R) 1805 14 (Int32.ofNat (k))).bind F = F (I 1805 k) := by rw [e_aI (a := 1805) (by decide) (show KK 1805 = (14, 100) from rfl) h (by decide)]; rfl
theorem gw_1805 {k : Nat} {v : Int32} {F : xM → Option β} (h : k < 100) : (wI (mg 4625 I J R) 1805 (Int32.ofNat (k)) v).bind F = F (mg 4625 (up I 1805 k v) J R) := by rw [e_wI (a := 1805) (by decide) (show KK 1805 = (14, 100) from rfl) h (by decide)]; rfl
theorem ga_2208 {k : Nat} {F : Int32 → Option β} (h : k < 80) : (aI (mg 4625 I J R) 2208 14 (Int32.ofNat (k))).bind F = F (I 2208 k) := by rw [e_aI (a := 2208) (by decide) (show KK 2208 = (14, 80) from rfl) h (by decide)]; rfl
theorem gw_2208 {k : Nat} {v : Int32} {F : xM → Option β} (h : k < 80) : (wI (mg 4625 I J R) 2208 (Int32.ofNat (k)) v).bind F = F (mg 4625 (up I 2208 k v) J R) := by rw [e_wI (a := 2208) (by decide) (show KK 2208 = (14, 80) from rfl) h (by decide)]; rfl
theorem ga_2209 {k : Nat} {F : Int32 → Option β} (h : k < 80) : (aI (mg 4625 I J R) 2209 14 (Int32.ofNat (k))).bind F = F (I 2209 k) := by rw [e_aI (a := 2209) (by decide) (show KK 2209 = (14, 80) from rfl) h (by decide)]; rfl
theorem gw_2209 {k : Nat} {v : Int32} {F : xM → Option β} (h : k < 80) : (wI (mg 4625 I J R) 2209 (Int32.ofNat (k)) v).bind F = F (mg 4625 (up I 2209 k v) J R) := by rw [e_wI (a := 2209) (by decide) (show KK 2209 = (14, 80) from rfl) h (by decide)]; rfl
theorem ga_2210 {k : Nat} {F : Int32 → Option β} (h : k < 80) : (aI (mg 4625 I J R) 2210 14 (Int32.ofNat (k))).bind F = F (I 2210 k) := by rw [e_aI (a := 2210) (by decide) (show KK 2210 = (14, 80) from rfl) h (by decide)]; rfl
theorem gw_2210 {k : Nat} {v : Int32} {F : xM → Option β} (h : k < 80) : (wI (mg 4625 I J R) 2210 (Int32.ofNat (k)) v).bind F = F (mg 4625 (up I 2210 k v) J R) := by rw [e_wI (a := 2210) (by decide) (show KK 2210 = (14, 80) from rfl) h (by decide)]; rfl
theorem ga_2211 {k : Nat} {F : Int32 → Option β} (h : k < 80) : (aI (mg 4625 I J R) 2211 14 (Int32.ofNat (k))).bind F = F (I 2211 k) := by rw [e_aI (a := 2211) (by decide) (show KK 2211 = (14, 80) from rfl) h (by decide)]; rfl
theorem gw_2211 {k : Nat} {v : Int32} {F : xM → Option β} (h : k < 80) : (wI (mg 4625 I J R) 2211 (Int32.ofNat (k)) v).bind F = F (mg 4625 (up I 2211 k v) J R) := by rw [e_wI (a := 2211) (by decide) (show KK 2211 = (14, 80) from rfl) h (by decide)]; rfl
theorem ga_2212 {k : Nat} {F : Int32 → Option β} (h : k < 80) : (aI (mg 4625 I J R) 2212 14 (Int32.ofNat (k))).bind F = F (I 2212 k) := by rw [e_aI (a := 2212) (by decide) (show KK 2212 = (14, 80) from rfl) h (by decide)]; rfl
theorem gw_2212 {k : Nat} {v : Int32} {F : xM → Option β} (h : k < 80) : (wI (mg 4625 I J R) 2212 (Int32.ofNat (k)) v).bind F = F (mg 4625 (up I 2212 k v) J R) := by rw [e_wI (a := 2212) (by decide) (show KK 2212 = (14, 80) from rfl) h (by decide)]; rfl
theorem ga_2213 {k : Nat} {F : Int32 → Option β} (h : k < 80) : (aI (mg 4625 I J R) 2213 14 (Int32.ofNat (k))).bind F = F (I 2213 k) := by rw [e_aI (a := 2213) (by decide) (show KK 2213 = (14, 80) from rfl) h (by decide)]; rfl
theorem gw_2213 {k : Nat} {v : Int32} {F : xM → Option β} (h : k < 80) : (wI (mg 4625 I J R) 2213 (Int32.ofNat (k)) v).bind F = F (mg 4625 (up I 2213 k v) J R) := by rw [e_wI (a := 2213) (by decide) (show KK 2213 = (14, 80) from rfl) h (by decide)]; rfl
theorem ga_2214 {k : Nat} {F : Int32 → Option β} (h : k < 80) : (aI (mg 4625 I J R) 2214 14 (Int32.ofNat (k))).bind F = F (I 2214 k) := by rw [e_aI (a := 2214) (by decide) (show KK 2214 = (14, 80) from rfl) h (by decide)]; rfl
theorem gw_2214 {k : Nat} {v : Int32} {F : xM → Option β} (h : k < 80) : (wI (mg 4625 I J R) 2214 (Int32.ofNat (k)) v).bind F = F (mg 4625 (up I 2214 k v) J R) := by rw [e_wI (a := 2214) (by decide) (show KK 2214 = (14, 80) from rfl) h (by decide)]; rfl
theorem ga_2217 {k : Nat} {F : Int32 → Option β} (h : k < 48) : (aI (mg 4625 I J R) 2217 14 (Int32.ofNat (k))).bind F = F (I 2217 k) := by rw [e_aI (a := 2217) (by decide) (show KK 2217 = (14, 48) from rfl) h (by decide)]; rfl
theorem gw_2217 {k : Nat} {v : Int32} {F : xM → Option β} (h : k < 48) : (wI (mg 4625 I J R) 2217 (Int32.ofNat (k)) v).bind F = F (mg 4625 (up I 2217 k v) J R) := by rw [e_wI (a := 2217) (by decide) (show KK 2217 = (14, 48) from rfl) h (by decide)]; rfl
theorem ga_2222 {k : Nat} {F : Int32 → Option β} (h : k < 100) : (aI (mg 4625 I J R) 2222 14 (Int32.ofNat (k))).bind F = F (I 2222 k) := by rw [e_aI (a := 2222) (by decide) (show KK 2222 = (14, 100) from rfl) h (by decide)]; rfl
theorem gw_2222 {k : Nat} {v : Int32} {F : xM → Option β} (h : k < 100) : (wI (mg 4625 I J R) 2222 (Int32.ofNat (k)) v).bind F = F (mg 4625 (up I 2222 k v) J R) := by rw [e_wI (a := 2222) (by decide) (show KK 2222 = (14, 100) from rfl) h (by decide)]; rfl
theorem ga_2224 {k : Nat} {F : Int32 → Option β} (h : k < 100) : (aI (mg 4625 I J R) 2224 14 (Int32.ofNat (k))).bind F = F (I 2224 k) := by rw [e_aI (a := 2224) (by decide) (show KK 2224 = (14, 100) from rfl) h (by decide)]; rfl
theorem gw_2224 {k : Nat} {v : Int32} {F : xM → Option β} (h : k < 100) : (wI (mg 4625 I J R) 2224 (Int32.ofNat (k)) v).bind F = F (mg 4625 (up I 2224 k v) J R) := by rw [e_wI (a := 2224) (by decide) (show KK 2224 = (14, 100) from rfl) h (by decide)]; rfl
theorem ga_2227 {k : Nat} {F : Int32 → Option β} (h : k < 100) : (aI (mg 4625 I J R) 2227 14 (Int32.ofNat (k))).bind F = F (I 2227 k) := by rw [e_aI (a := 2227) (by decide) (show KK 2227 = (14, 100) from rfl) h (by decide)]; rfl
theorem gw_2227 {k : Nat} {v : Int32} {F : xM → Option β} (h : k < 100) : (wI (mg 4625 I J R) 2227 (Int32.ofNat (k)) v).bind F = F (mg 4625 (up I 2227 k v) J R) := by rw [e_wI (a := 2227) (by decide) (show KK 2227 = (14, 100) from rfl) h (by decide)]; rfl
theorem ga_2229 {k : Nat} {F : Int32 → Option β} (h : k < 100) : (aI (mg 4625 I J R) 2229 14 (Int32.ofNat (k))).bind F = F (I 2229 k) := by rw [e_aI (a := 2229) (by decide) (show KK 2229 = (14, 100) from rfl) h (by decide)]; rfl
theorem gw_2229 {k : Nat} {v : Int32} {F : xM → Option β} (h : k < 100) : (wI (mg 4625 I J R) 2229 (Int32.ofNat (k)) v).bind F = F (mg 4625 (up I 2229 k v) J R) := by rw [e_wI (a := 2229) (by decide) (show KK 2229 = (14, 100) from rfl) h (by decide)]; rfl
theorem ga_2233 {k : Nat} {F : Int32 → Option β} (h : k < 7) : (aI (mg 4625 I J R) 2233 14 (Int32.ofNat (k))).bind F = F (I 2233 k) := by rw [e_aI (a := 2233) (by decide) (show KK 2233 = (14, 7) from rfl) h (by decide)]; rfl
theorem gw_2233 {k : Nat} {v : Int32} {F : xM → Option β} (h : k < 7) : (wI (mg 4625 I J R) 2233 (Int32.ofNat (k)) v).bind F = F (mg 4625 (up I 2233 k v) J R) := by rw [e_wI (a := 2233) (by decide) (show KK 2233 = (14, 7) from rfl) h (by decide)]; rfl
theorem ga_2235 {k : Nat} {F : Int32 → Option β} (h : k < 7) : (aI (mg 4625 I J R) 2235 14 (Int32.ofNat (k))).bind F = F (I 2235 k) := by rw [e_aI (a := 2235) (by decide) (show KK 2235 = (14, 7) from rfl) h (by decide)]; rfl
theorem gw_2235 {k : Nat} {v : Int32} {F : xM → Option β} (h : k < 7) : (wI (mg 4625 I J R) 2235 (Int32.ofNat (k)) v).bind F = F (mg 4625 (up I 2235 k v) J R) := by rw [e_wI (a := 2235) (by decide) (show KK 2235 = (14, 7) from rfl) h (by decide)]; rfl
theorem ga_2238 {k : Nat} {F : Int32 → Option β} (h : k < 7) : (aI (mg 4625 I J R) 2238 14 (Int32.ofNat (k))).bind F = F (I 2238 k) := by rw [e_aI (a := 2238) (by decide) (show KK 2238 = (14, 7) from rfl) h (by decide)]; rfl
theorem gw_2238 {k : Nat} {v : Int32} {F : xM → Option β} (h : k < 7) : (wI (mg 4625 I J R) 2238 (Int32.ofNat (k)) v).bind F = F (mg 4625 (up I 2238 k v) J R) := by rw [e_wI (a := 2238) (by decide) (show KK 2238 = (14, 7) from rfl) h (by decide)]; rfl
theorem ga_2240 {k : Nat} {F : Int32 → Option β} (h : k < 7) : (aI (mg 4625 I J R) 2240 14 (Int32.ofNat (k))).bind F = F (I 2240 k) := by rw [e_aI (a := 2240) (by decide) (show KK 2240 = (14, 7) from rfl) h (by decide)]; rfl
theorem gw_2240 {k : Nat} {v : Int32} {F : xM → Option β} (h : k < 7) : (wI (mg 4625 I J R) 2240 (Int32.ofNat (k)) v).bind F = F (mg 4625 (up I 2240 k v) J R) := by rw [e_wI (a := 2240) (by decide) (show KK 2240 = (14, 7) from rfl) h (by decide)]; rfl
theorem ga_2243 {k : Nat} {F : Int32 → Option β} (h : k < 7) : (aI (mg 4625 I J R) 2243 14 (Int32.ofNat (k))).bind F = F (I 2243 k) := by rw [e_aI (a := 2243) (by decide) (show KK 2243 = (14, 7) from rfl) h (by decide)]; rfl
theorem gw_2243 {k : Nat} {v : Int32} {F : xM → Option β} (h : k < 7) : (wI (mg 4625 I J R) 2243 (Int32.ofNat (k)) v).bind F = F (mg 4625 (up I 2243 k v) J R) := by rw [e_wI (a := 2243) (by decide) (show KK 2243 = (14, 7) from rfl) h (by decide)]; rfl
theorem ga_2245 {k : Nat} {F : Int32 → Option β} (h : k < 7) : (aI (mg 4625 I J R) 2245 14 (Int32.ofNat (k))).bind F = F (I 2245 k) := by rw [e_aI (a := 2245) (by decide) (show KK 2245 = (14, 7) from rfl) h (by decide)]; rfl
theorem gw_2245 {k : Nat} {v : Int32} {F : xM → Option β} (h : k < 7) : (wI (mg 4625 I J R) 2245 (Int32.ofNat (k)) v).bind F = F (mg 4625 (up I 2245 k v) J R) := by rw [e_wI (a := 2245) (by decide) (show KK 2245 = (14, 7) from rfl) h (by decide)]; rfl
theorem ga_4543 {k : Nat} {F : Int32 → Option β} (h : k < 7) : (aI (mg 4625 I J R) 4543 14 (Int32.ofNat (k))).bind F = F (I 4543 k) := by rw [e_aI (a := 4543) (by decide) (show KK 4543 = (14, 7) from rfl) h (by decide)]; rfl
theorem gw_4543 {k : Nat} {v : Int32} {F : xM → Option β} (h : k < 7) : (wI (mg 4625 I J R) 4543 (Int32.ofNat (k)) v).bind F = F (mg 4625 (up I 4543 k v) J R) := by rw [e_wI (a := 4543) (by decide) (show KK 4543 = (14, 7) from rfl) h (by decide)]; rfl
theorem ga_4545 {k : Nat} {F : Int32 → Option β} (h : k < 7) : (aI (mg 4625 I J R) 4545 14 (Int32.ofNat (k))).bind F = F (I 4545 k) := by rw [e_aI (a := 4545) (by decide) (show KK 4545 = (14, 7) from rfl) h (by decide)]; rfl
theorem gw_4545 {k : Nat} {v : Int32} {F : xM → Option β} (h : k < 7) : (wI (mg 4625 I J R) 4545 (Int32.ofNat (k)) v).bind F = F (mg 4625 (up I 4545 k v) J R) := by rw [e_wI (a := 4545) (by decide) (show KK 4545 = (14, 7) from rfl) h (by decide)]; rfl
theorem ga_4548 {k : Nat} {F : Int32 → Option β} (h : k < 7) : (aI (mg 4625 I J R) 4548 14 (Int32.ofNat (k))).bind F = F (I 4548 k) := by rw [e_aI (a := 4548) (by decide) (show KK 4548 = (14, 7) from rfl) h (by decide)]; rfl
theorem gw_4548 {k : Nat} {v : Int32} {F : xM → Option β} (h : k < 7) : (wI (mg 4625 I J R) 4548 (Int32.ofNat (k)) v).bind F = F (mg 4625 (up I 4548 k v) J R) := by rw [e_wI (a := 4548) (by decide) (show KK 4548 = (14, 7) from rfl) h (by decide)]; rfl
theorem ga_4550 {k : Nat} {F : Int32 → Option β} (h : k < 7) : (aI (mg 4625 I J R) 4550 14 (Int32.ofNat (k))).bind F = F (I 4550 k) := by rw [e_aI (a := 4550) (by decide) (show KK 4550 = (14, 7) from rfl) h (by decide)]; rfl
theorem gw_4550 {k : Nat} {v : Int32} {F : xM → Option β} (h : k < 7) : (wI (mg 4625 I J R) 4550 (Int32.ofNat (k)) v).bind F = F (mg 4625 (up I 4550 k v) J R) := by rw [e_wI (a := 4550) (by decide) (show KK 4550 = (14, 7) from rfl) h (by decide)]; rfl
theorem ga_4552 {k : Nat} {F : Int32 → Option β} (h : k < 80) : (aI (mg 4625 I J R) 4552 14 (Int32.ofNat (k))).bind F = F (I 4552 k) := by rw [e_aI (a := 4552) (by decide) (show KK 4552 = (14, 80) from rfl) h (by decide)]; rfl
theorem gw_4552 {k : Nat} {v : Int32} {F : xM → Option β} (h : k < 80) : (wI (mg 4625 I J R) 4552 (Int32.ofNat (k)) v).bind F = F (mg 4625 (up I 4552 k v) J R) := by rw [e_wI (a := 4552) (by decide) (show KK 4552 = (14, 80) from rfl) h (by decide)]; rfl
theorem ga_4553 {k : Nat} {F : Int32 → Option β} (h : k < 80) : (aI (mg 4625 I J R) 4553 14 (Int32.ofNat (k))).bind F = F (I 4553 k) := by rw [e_aI (a := 4553) (by decide) (show KK 4553 = (14, 80) from rfl) h (by decide)]; rfl
theorem gw_4553 {k : Nat} {v : Int32} {F : xM → Option β} (h : k < 80) : (wI (mg 4625 I J R) 4553 (Int32.ofNat (k)) v).bind F = F (mg 4625 (up I 4553 k v) J R) := by rw [e_wI (a := 4553) (by decide) (show KK 4553 = (14, 80) from rfl) h (by decide)]; rfl
theorem ga_4554 {k : Nat} {F : Int32 → Option β} (h : k < 80) : (aI (mg 4625 I J R) 4554 14 (Int32.ofNat (k))).bind F = F (I 4554 k) := by rw [e_aI (a := 4554) (by decide) (show KK 4554 = (14, 80) from rfl) h (by decide)]; rfl
theorem gw_4554 {k : Nat} {v : Int32} {F : xM → Option β} (h : k < 80) : (wI (mg 4625 I J R) 4554 (Int32.ofNat (k)) v).bind F = F (mg 4625 (up I 4554 k v) J R) := by rw [e_wI (a := 4554) (by decide) (show KK 4554 = (14, 80) from rfl) h (by decide)]; rfl
theorem ga_4555 {k : Nat} {F : Int32 → Option β} (h : k < 80) : (aI (mg 4625 I J R) 4555 14 (Int32.ofNat (k))).bind F = F (I 4555 k) := by rw [e_aI (a := 4555) (by decide) (show KK 4555 = (14, 80) from rfl) h (by decide)]; rfl
theorem gw_4555 {k : Nat} {v : Int32} {F : xM → Option β} (h : k < 80) : (wI (mg 4625 I J R) 4555 (Int32.ofNat (k)) v).bind F = F (mg 4625 (up I 4555 k v) J R) := by rw [e_wI (a := 4555) (by decide) (show KK 4555 = (14, 80) from rfl) h (by decide)]; rfl
theorem ga_4556 {k : Nat} {F : Int32 → Option β} (h : k < 80) : (aI (mg 4625 I J R) 4556 14 (Int32.ofNat (k))).bind F = F (I 4556 k) := by rw [e_aI (a := 4556) (by decide) (show KK 4556 = (14, 80) from rfl) h (by decide)]; rfl
theorem gw_4556 {k : Nat} {v : Int32} {F : xM → Option β} (h : k < 80) : (wI (mg 4625 I J R) 4556 (Int32.ofNat (k)) v).bind F = F (mg 4625 (up I 4556 k v) J R) := by rw [e_wI (a := 4556) (by decide) (show KK 4556 = (14, 80) from rfl) h (by decide)]; rfl
theorem ga_4557 {k : Nat} {F : Int32 → Option β} (h : k < 80) : (aI (mg 4625 I J R) 4557 14 (Int32.ofNat (k))).bind F = F (I 4557 k) := by rw [e_aI (a := 4557) (by decide) (show KK 4557 = (14, 80) from rfl) h (by decide)]; rfl
theorem gw_4557 {k : Nat} {v : Int32} {F : xM → Option β} (h : k < 80) : (wI (mg 4625 I J R) 4557 (Int32.ofNat (k)) v).bind F = F (mg 4625 (up I 4557 k v) J R) := by rw [e_wI (a := 4557) (by decide) (show KK 4557 = (14, 80) from rfl) h (by decide)]; rfl
theorem ga_4558 {k : Nat} {F : Int32 → Option β} (h : k < 80) : (aI (mg 4625 I J R) 4558 14 (Int32.ofNat (k))).bind F = F (I 4558 k) := by rw [e_aI (a := 4558) (by decide) (show KK 4558 = (14, 80) from rfl) h (by decide)]; rfl
theorem gw_4558 {k : Nat} {v : Int32} {F : xM → Option β} (h : k < 80) : (wI (mg 4625 I J R) 4558 (Int32.ofNat (k)) v).bind F = F (mg 4625 (up I 4558 k v) J R) := by rw [e_wI (a := 4558) (by decide) (show KK 4558 = (14, 80) from rfl) h (by decide)]; rfl
theorem ga_4559 {k : Nat} {F : Int32 → Option β} (h : k < 80) : (aI (mg 4625 I J R) 4559 14 (Int32.ofNat (k))).bind F = F (I 4559 k) := by rw [e_aI (a := 4559) (by decide) (show KK 4559 = (14, 80) from rfl) h (by decide)]; rfl
theorem gw_4559 {k : Nat} {v : Int32} {F : xM → Option β} (h : k < 80) : (wI (mg 4625 I J R) 4559 (Int32.ofNat (k)) v).bind F = F (mg 4625 (up I 4559 k v) J R) := by rw [e_wI (a := 4559) (by decide) (show KK 4559 = (14, 80) from rfl) h (by decide)]; rfl
theorem ga_4560 {k : Nat} {F : Int32 → Option β} (h : k < 80) : (aI (mg 4625 I J R) 4560 14 (Int32.ofNat (k))).bind F = F (I 4560 k) := by rw [e_aI (a := 4560) (by decide) (show KK 4560 = (14, 80) from rfl) h (by decide)]; rfl
theorem gw_4560 {k : Nat} {v : Int32} {F : xM → Option β} (h : k < 80) : (wI (mg 4625 I J R) 4560 (Int32.ofNat (k)) v).bind F = F (mg 4625 (up I 4560 k v) J R) := by rw [e_wI (a := 4560) (by decide) (show KK 4560 = (14, 80) from rfl) h (by decide)]; rfl
theorem ga_4562 {k : Nat} {F : Int32 → Option β} (h : k < 7040) : (aI (mg 4625 I J R) 4562 14 (Int32.ofNat (k))).bind F = F (I 4562 k) := by rw [e_aI (a := 4562) (by decide) (show KK 4562 = (14, 7040) from rfl) h (by decide)]; rfl
theorem gw_4562 {k : Nat} {v : Int32} {F : xM → Option β} (h : k < 7040) : (wI (mg 4625 I J R) 4562 (Int32.ofNat (k)) v).bind F = F (mg 4625 (up I 4562 k v) J R) := by rw [e_wI (a := 4562) (by decide) (show KK 4562 = (14, 7040) from rfl) h (by decide)]; rfl
theorem ga_4563 {k : Nat} {F : Int32 → Option β} (h : k < 16) : (aI (mg 4625 I J R) 4563 14 (Int32.ofNat (k))).bind F = F (I 4563 k) := by rw [e_aI (a := 4563) (by decide) (show KK 4563 = (14, 16) from rfl) h (by decide)]; rfl
theorem gw_4563 {k : Nat} {v : Int32} {F : xM → Option β} (h : k < 16) : (wI (mg 4625 I J R) 4563 (Int32.ofNat (k)) v).bind F = F (mg 4625 (up I 4563 k v) J R) := by rw [e_wI (a := 4563) (by decide) (show KK 4563 = (14, 16) from rfl) h (by decide)]; rfl
theorem ga_4564 {k : Nat} {F : Int32 → Option β} (h : k < 104160) : (aI (mg 4625 I J R) 4564 14 (Int32.ofNat (k))).bind F = F (I 4564 k) := by rw [e_aI (a := 4564) (by decide) (show KK 4564 = (14, 104160) from rfl) h (by decide)]; rfl
theorem gw_4564 {k : Nat} {v : Int32} {F : xM → Option β} (h : k < 104160) : (wI (mg 4625 I J R) 4564 (Int32.ofNat (k)) v).bind F = F (mg 4625 (up I 4564 k v) J R) := by rw [e_wI (a := 4564) (by decide) (show KK 4564 = (14, 104160) from rfl) h (by decide)]; rfl
theorem ga_4565 {k : Nat} {F : Int32 → Option β} (h : k < 20300) : (aI (mg 4625 I J R) 4565 14 (Int32.ofNat (k))).bind F = F (I 4565 k) := by rw [e_aI (a := 4565) (by decide) (show KK 4565 = (14, 20300) from rfl) h (by decide)]; rfl
theorem gw_4565 {k : Nat} {v : Int32} {F : xM → Option β} (h : k < 20300) : (wI (mg 4625 I J R) 4565 (Int32.ofNat (k)) v).bind F = F (mg 4625 (up I 4565 k v) J R) := by rw [e_wI (a := 4565) (by decide) (show KK 4565 = (14, 20300) from rfl) h (by decide)]; rfl
theorem ga_4566 {k : Nat} {F : Int32 → Option β} (h : k < 20300) : (aI (mg 4625 I J R) 4566 14 (Int32.ofNat (k))).bind F = F (I 4566 k) := by rw [e_aI (a := 4566) (by decide) (show KK 4566 = (14, 20300) from rfl) h (by decide)]; rfl
theorem gw_4566 {k : Nat} {v : Int32} {F : xM → Option β} (h : k < 20300) : (wI (mg 4625 I J R) 4566 (Int32.ofNat (k)) v).bind F = F (mg 4625 (up I 4566 k v) J R) := by rw [e_wI (a := 4566) (by decide) (show KK 4566 = (14, 20300) from rfl) h (by decide)]; rfl
theorem ga_4567 {k : Nat} {F : Int32 → Option β} (h : k < 20300) : (aI (mg 4625 I J R) 4567 14 (Int32.ofNat (k))).bind F = F (I 4567 k) := by rw [e_aI (a := 4567) (by decide) (show KK 4567 = (14, 20300) from rfl) h (by decide)]; rfl
theorem gw_4567 {k : Nat} {v : Int32} {F : xM → Option β} (h : k < 20300) : (wI (mg 4625 I J R) 4567 (Int32.ofNat (k)) v).bind F = F (mg 4625 (up I 4567 k v) J R) := by rw [e_wI (a := 4567) (by decide) (show KK 4567 = (14, 20300) from rfl) h (by decide)]; rfl
theorem ga_4568 {k : Nat} {F : Int32 → Option β} (h : k < 20300) : (aI (mg 4625 I J R) 4568 14 (Int32.ofNat (k))).bind F = F (I 4568 k) := by rw [e_aI (a := 4568) (by decide) (show KK 4568 = (14, 20300) from rfl) h (by decide)]; rfl
theorem gw_4568 {k : Nat} {v : Int32} {F : xM → Option β} (h : k < 20300) : (wI (mg 4625 I J R) 4568 (Int32.ofNat (k)) v).bind F = F (mg 4625 (up I 4568 k v) J R) := by rw [e_wI (a := 4568) (by decide) (show KK 4568 = (14, 20300) from rfl) h (by decide)]; rfl
theorem ga_4569 {k : Nat} {F : Int32 → Option β} (h : k < 20300) : (aI (mg 4625 I J R) 4569 14 (Int32.ofNat (k))).bind F = F (I 4569 k) := by rw [e_aI (a := 4569) (by decide) (show KK 4569 = (14, 20300) from rfl) h (by decide)]; rfl
theorem gw_4569 {k : Nat} {v : Int32} {F : xM → Option β} (h : k < 20300) : (wI (mg 4625 I J R) 4569 (Int32.ofNat (k)) v).bind F = F (mg 4625 (up I 4569 k v) J R) := by rw [e_wI (a := 4569) (by decide) (show KK 4569 = (14, 20300) from rfl) h (by decide)]; rfl
theorem ga_4570 {k : Nat} {F : Int32 → Option β} (h : k < 30) : (aI (mg 4625 I J R) 4570 14 (Int32.ofNat (k))).bind F = F (I 4570 k) := by rw [e_aI (a := 4570) (by decide) (show KK 4570 = (14, 30) from rfl) h (by decide)]; rfl
theorem gw_4570 {k : Nat} {v : Int32} {F : xM → Option β} (h : k < 30) : (wI (mg 4625 I J R) 4570 (Int32.ofNat (k)) v).bind F = F (mg 4625 (up I 4570 k v) J R) := by rw [e_wI (a := 4570) (by decide) (show KK 4570 = (14, 30) from rfl) h (by decide)]; rfl
theorem ga_4571 {k : Nat} {F : Int32 → Option β} (h : k < 26) : (aI (mg 4625 I J R) 4571 14 (Int32.ofNat (k))).bind F = F (I 4571 k) := by rw [e_aI (a := 4571) (by decide) (show KK 4571 = (14, 26) from rfl) h (by decide)]; rfl
theorem gw_4571 {k : Nat} {v : Int32} {F : xM → Option β} (h : k < 26) : (wI (mg 4625 I J R) 4571 (Int32.ofNat (k)) v).bind F = F (mg 4625 (up I 4571 k v) J R) := by rw [e_wI (a := 4571) (by decide) (show KK 4571 = (14, 26) from rfl) h (by decide)]; rfl
theorem ga_4572 {k : Nat} {F : Int32 → Option β} (h : k < 26) : (aI (mg 4625 I J R) 4572 14 (Int32.ofNat (k))).bind F = F (I 4572 k) := by rw [e_aI (a := 4572) (by decide) (show KK 4572 = (14, 26) from rfl) h (by decide)]; rfl
theorem gw_4572 {k : Nat} {v : Int32} {F : xM → Option β} (h : k < 26) : (wI (mg 4625 I J R) 4572 (Int32.ofNat (k)) v).bind F = F (mg 4625 (up I 4572 k v) J R) := by rw [e_wI (a := 4572) (by decide) (show KK 4572 = (14, 26) from rfl) h (by decide)]; rfl
theorem ga_4573 {k : Nat} {F : Int32 → Option β} (h : k < 208) : (aI (mg 4625 I J R) 4573 14 (Int32.ofNat (k))).bind F = F (I 4573 k) := by rw [e_aI (a := 4573) (by decide) (show KK 4573 = (14, 208) from rfl) h (by decide)]; rfl
theorem gw_4573 {k : Nat} {v : Int32} {F : xM → Option β} (h : k < 208) : (wI (mg 4625 I J R) 4573 (Int32.ofNat (k)) v).bind F = F (mg 4625 (up I 4573 k v) J R) := by rw [e_wI (a := 4573) (by decide) (show KK 4573 = (14, 208) from rfl) h (by decide)]; rfl
theorem ga_4574 {k : Nat} {F : Int32 → Option β} (h : k < 100) : (aI (mg 4625 I J R) 4574 14 (Int32.ofNat (k))).bind F = F (I 4574 k) := by rw [e_aI (a := 4574) (by decide) (show KK 4574 = (14, 100) from rfl) h (by decide)]; rfl
theorem gw_4574 {k : Nat} {v : Int32} {F : xM → Option β} (h : k < 100) : (wI (mg 4625 I J R) 4574 (Int32.ofNat (k)) v).bind F = F (mg 4625 (up I 4574 k v) J R) := by rw [e_wI (a := 4574) (by decide) (show KK 4574 = (14, 100) from rfl) h (by decide)]; rfl
theorem ga_4575 {k : Nat} {F : Int32 → Option β} (h : k < 48) : (aI (mg 4625 I J R) 4575 14 (Int32.ofNat (k))).bind F = F (I 4575 k) := by rw [e_aI (a := 4575) (by decide) (show KK 4575 = (14, 48) from rfl) h (by decide)]; rfl
theorem gw_4575 {k : Nat} {v : Int32} {F : xM → Option β} (h : k < 48) : (wI (mg 4625 I J R) 4575 (Int32.ofNat (k)) v).bind F = F (mg 4625 (up I 4575 k v) J R) := by rw [e_wI (a := 4575) (by decide) (show KK 4575 = (14, 48) from rfl) h (by decide)]; rfl
theorem ga_4576 {k : Nat} {F : Int32 → Option β} (h : k < 48) : (aI (mg 4625 I J R) 4576 14 (Int32.ofNat (k))).bind F = F (I 4576 k) := by rw [e_aI (a := 4576) (by decide) (show KK 4576 = (14, 48) from rfl) h (by decide)]; rfl
theorem gw_4576 {k : Nat} {v : Int32} {F : xM → Option β} (h : k < 48) : (wI (mg 4625 I J R) 4576 (Int32.ofNat (k)) v).bind F = F (mg 4625 (up I 4576 k v) J R) := by rw [e_wI (a := 4576) (by decide) (show KK 4576 = (14, 48) from rfl) h (by decide)]; rfl
theorem ga_4577 {k : Nat} {F : Int32 → Option β} (h : k < 48) : (aI (mg 4625 I J R) 4577 14 (Int32.ofNat (k))).bind F = F (I 4577 k) := by rw [e_aI (a := 4577) (by decide) (show KK 4577 = (14, 48) from rfl) h (by decide)]; rfl
theorem gw_4577 {k : Nat} {v : Int32} {F : xM → Option β} (h : k < 48) : (wI (mg 4625 I J R) 4577 (Int32.ofNat (k)) v).bind F = F (mg 4625 (up I 4577 k v) J R) := by rw [e_wI (a := 4577) (by decide) (show KK 4577 = (14, 48) from rfl) h (by decide)]; rfl
theorem ga_4578 {k : Nat} {F : Int32 → Option β} (h : k < 60) : (aI (mg 4625 I J R) 4578 14 (Int32.ofNat (k))).bind F = F (I 4578 k) := by rw [e_aI (a := 4578) (by decide) (show KK 4578 = (14, 60) from rfl) h (by decide)]; rfl
theorem gw_4578 {k : Nat} {v : Int32} {F : xM → Option β} (h : k < 60) : (wI (mg 4625 I J R) 4578 (Int32.ofNat (k)) v).bind F = F (mg 4625 (up I 4578 k v) J R) := by rw [e_wI (a := 4578) (by decide) (show KK 4578 = (14, 60) from rfl) h (by decide)]; rfl
theorem ga_4579 {k : Nat} {F : Int32 → Option β} (h : k < 1000) : (aI (mg 4625 I J R) 4579 14 (Int32.ofNat (k))).bind F = F (I 4579 k) := by rw [e_aI (a := 4579) (by decide) (show KK 4579 = (14, 1000) from rfl) h (by decide)]; rfl
theorem gw_4579 {k : Nat} {v : Int32} {F : xM → Option β} (h : k < 1000) : (wI (mg 4625 I J R) 4579 (Int32.ofNat (k)) v).bind F = F (mg 4625 (up I 4579 k v) J R) := by rw [e_wI (a := 4579) (by decide) (show KK 4579 = (14, 1000) from rfl) h (by decide)]; rfl
theorem ga_4580 {k : Nat} {F : Int32 → Option β} (h : k < 1000) : (aI (mg 4625 I J R) 4580 14 (Int32.ofNat (k))).bind F = F (I 4580 k) := by rw [e_aI (a := 4580) (by decide) (show KK 4580 = (14, 1000) from rfl) h (by decide)]; rfl
theorem gw_4580 {k : Nat} {v : Int32} {F : xM → Option β} (h : k < 1000) : (wI (mg 4625 I J R) 4580 (Int32.ofNat (k)) v).bind F = F (mg 4625 (up I 4580 k v) J R) := by rw [e_wI (a := 4580) (by decide) (show KK 4580 = (14, 1000) from rfl) h (by decide)]; rfl
theorem ga_4581 {k : Nat} {F : Int32 → Option β} (h : k < 1000) : (aI (mg 4625 I J R) 4581 14 (Int32.ofNat (k))).bind F = F (I 4581 k) := by rw [e_aI (a := 4581) (by decide) (show KK 4581 = (14, 1000) from rfl) h (by decide)]; rfl
theorem gw_4581 {k : Nat} {v : Int32} {F : xM → Option β} (h : k < 1000) : (wI (mg 4625 I J R) 4581 (Int32.ofNat (k)) v).bind F = F (mg 4625 (up I 4581 k v) J R) := by rw [e_wI (a := 4581) (by decide) (show KK 4581 = (14, 1000) from rfl) h (by decide)]; rfl
theorem ga_4582 {k : Nat} {F : Int32 → Option β} (h : k < 1000) : (aI (mg 4625 I J R) 4582 14 (Int32.ofNat (k))).bind F = F (I 4582 k) := by rw [e_aI (a := 4582) (by decide) (show KK 4582 = (14, 1000) from rfl) h (by decide)]; rfl
theorem gw_4582 {k : Nat} {v : Int32} {F : xM → Option β} (h : k < 1000) : (wI (mg 4625 I J R) 4582 (Int32.ofNat (k)) v).bind F = F (mg 4625 (up I 4582 k v) J R) := by rw [e_wI (a := 4582) (by decide) (show KK 4582 = (14, 1000) from rfl) h (by decide)]; rfl
theorem ga_4583 {k : Nat} {F : Int32 → Option β} (h : k < 1000) : (aI (mg 4625 I J R) 4583 15 (Int32.ofNat (k))).bind F = F (I 4583 k) := by rw [e_aI (a := 4583) (by decide) (show KK 4583 = (15, 1000) from rfl) h (by decide)]; rfl
theorem gz_4583 {k : Nat} {v : Int32} {F : xM → Option β} (h : k < 1000) (hv : (v == 0 || v == 1) = true) : (wZ (mg 4625 I J R) 4583 (Int32.ofNat (k)) v).bind F = F (mg 4625 (up I 4583 k v) J R) := by rw [owZ_4583, if_pos (by rw [hv, xvi_nat h (by decide)]; rfl), i32_nat (by omega)]; rfl
theorem ga_4584 {k : Nat} {F : Int32 → Option β} (h : k < 100) : (aI (mg 4625 I J R) 4584 14 (Int32.ofNat (k))).bind F = F (I 4584 k) := by rw [e_aI (a := 4584) (by decide) (show KK 4584 = (14, 100) from rfl) h (by decide)]; rfl
theorem gw_4584 {k : Nat} {v : Int32} {F : xM → Option β} (h : k < 100) : (wI (mg 4625 I J R) 4584 (Int32.ofNat (k)) v).bind F = F (mg 4625 (up I 4584 k v) J R) := by rw [e_wI (a := 4584) (by decide) (show KK 4584 = (14, 100) from rfl) h (by decide)]; rfl
theorem ga_4585 {k : Nat} {F : Int32 → Option β} (h : k < 100) : (aI (mg 4625 I J R) 4585 14 (Int32.ofNat (k))).bind F = F (I 4585 k) := by rw [e_aI (a := 4585) (by decide) (show KK 4585 = (14, 100) from rfl) h (by decide)]; rfl
theorem gw_4585 {k : Nat} {v : Int32} {F : xM → Option β} (h : k < 100) : (wI (mg 4625 I J R) 4585 (Int32.ofNat (k)) v).bind F = F (mg 4625 (up I 4585 k v) J R) := by rw [e_wI (a := 4585) (by decide) (show KK 4585 = (14, 100) from rfl) h (by decide)]; rfl
theorem ga_4586 {k : Nat} {F : Int32 → Option β} (h : k < 100) : (aI (mg 4625 I J R) 4586 14 (Int32.ofNat (k))).bind F = F (I 4586 k) := by rw [e_aI (a := 4586) (by decide) (show KK 4586 = (14, 100) from rfl) h (by decide)]; rfl
theorem gw_4586 {k : Nat} {v : Int32} {F : xM → Option β} (h : k < 100) : (wI (mg 4625 I J R) 4586 (Int32.ofNat (k)) v).bind F = F (mg 4625 (up I 4586 k v) J R) := by rw [e_wI (a := 4586) (by decide) (show KK 4586 = (14, 100) from rfl) h (by decide)]; rfl
theorem ga_4587 {k : Nat} {F : Int32 → Option β} (h : k < 100) : (aI (mg 4625 I J R) 4587 14 (Int32.ofNat (k))).bind F = F (I 4587 k) := by rw [e_aI (a := 4587) (by decide) (show KK 4587 = (14, 100) from rfl) h (by decide)]; rfl
theorem gw_4587 {k : Nat} {v : Int32} {F : xM → Option β} (h : k < 100) : (wI (mg 4625 I J R) 4587 (Int32.ofNat (k)) v).bind F = F (mg 4625 (up I 4587 k v) J R) := by rw [e_wI (a := 4587) (by decide) (show KK 4587 = (14, 100) from rfl) h (by decide)]; rfl
theorem ga_4588 {k : Nat} {F : Int32 → Option β} (h : k < 100) : (aI (mg 4625 I J R) 4588 14 (Int32.ofNat (k))).bind F = F (I 4588 k) := by rw [e_aI (a := 4588) (by decide) (show KK 4588 = (14, 100) from rfl) h (by decide)]; rfl
theorem gw_4588 {k : Nat} {v : Int32} {F : xM → Option β} (h : k < 100) : (wI (mg 4625 I J R) 4588 (Int32.ofNat (k)) v).bind F = F (mg 4625 (up I 4588 k v) J R) := by rw [e_wI (a := 4588) (by decide) (show KK 4588 = (14, 100) from rfl) h (by decide)]; rfl
theorem ga_4589 {k : Nat} {F : Int32 → Option β} (h : k < 100) : (aI (mg 4625 I J R) 4589 14 (Int32.ofNat (k))).bind F = F (I 4589 k) := by rw [e_aI (a := 4589) (by decide) (show KK 4589 = (14, 100) from rfl) h (by decide)]; rfl
theorem gw_4589 {k : Nat} {v : Int32} {F : xM → Option β} (h : k < 100) : (wI (mg 4625 I J R) 4589 (Int32.ofNat (k)) v).bind F = F (mg 4625 (up I 4589 k v) J R) := by rw [e_wI (a := 4589) (by decide) (show KK 4589 = (14, 100) from rfl) h (by decide)]; rfl
theorem ga_4590 {k : Nat} {F : Int32 → Option β} (h : k < 100) : (aI (mg 4625 I J R) 4590 14 (Int32.ofNat (k))).bind F = F (I 4590 k) := by rw [e_aI (a := 4590) (by decide) (show KK 4590 = (14, 100) from rfl) h (by decide)]; rfl
theorem gw_4590 {k : Nat} {v : Int32} {F : xM → Option β} (h : k < 100) : (wI (mg 4625 I J R) 4590 (Int32.ofNat (k)) v).bind F = F (mg 4625 (up I 4590 k v) J R) := by rw [e_wI (a := 4590) (by decide) (show KK 4590 = (14, 100) from rfl) h (by decide)]; rfl
theorem ga_4591 {k : Nat} {F : Int32 → Option β} (h : k < 100) : (aI (mg 4625 I J R) 4591 15 (Int32.ofNat (k))).bind F = F (I 4591 k) := by rw [e_aI (a := 4591) (by decide) (show KK 4591 = (15, 100) from rfl) h (by decide)]; rfl
theorem gz_4591 {k : Nat} {v : Int32} {F : xM → Option β} (h : k < 100) (hv : (v == 0 || v == 1) = true) : (wZ (mg 4625 I J R) 4591 (Int32.ofNat (k)) v).bind F = F (mg 4625 (up I 4591 k v) J R) := by rw [owZ_4591, if_pos (by rw [hv, xvi_nat h (by decide)]; rfl), i32_nat (by omega)]; rfl
theorem ga_4592 {k : Nat} {F : Int32 → Option β} (h : k < 600) : (aI (mg 4625 I J R) 4592 14 (Int32.ofNat (k))).bind F = F (I 4592 k) := by rw [e_aI (a := 4592) (by decide) (show KK 4592 = (14, 600) from rfl) h (by decide)]; rfl
theorem gw_4592 {k : Nat} {v : Int32} {F : xM → Option β} (h : k < 600) : (wI (mg 4625 I J R) 4592 (Int32.ofNat (k)) v).bind F = F (mg 4625 (up I 4592 k v) J R) := by rw [e_wI (a := 4592) (by decide) (show KK 4592 = (14, 600) from rfl) h (by decide)]; rfl
theorem ga_4593 {k : Nat} {F : Int32 → Option β} (h : k < 600) : (aI (mg 4625 I J R) 4593 14 (Int32.ofNat (k))).bind F = F (I 4593 k) := by rw [e_aI (a := 4593) (by decide) (show KK 4593 = (14, 600) from rfl) h (by decide)]; rfl
theorem gw_4593 {k : Nat} {v : Int32} {F : xM → Option β} (h : k < 600) : (wI (mg 4625 I J R) 4593 (Int32.ofNat (k)) v).bind F = F (mg 4625 (up I 4593 k v) J R) := by rw [e_wI (a := 4593) (by decide) (show KK 4593 = (14, 600) from rfl) h (by decide)]; rfl
theorem ga_4594 {k : Nat} {F : Int32 → Option β} (h : k < 600) : (aI (mg 4625 I J R) 4594 14 (Int32.ofNat (k))).bind F = F (I 4594 k) := by rw [e_aI (a := 4594) (by decide) (show KK 4594 = (14, 600) from rfl) h (by decide)]; rfl
theorem gw_4594 {k : Nat} {v : Int32} {F : xM → Option β} (h : k < 600) : (wI (mg 4625 I J R) 4594 (Int32.ofNat (k)) v).bind F = F (mg 4625 (up I 4594 k v) J R) := by rw [e_wI (a := 4594) (by decide) (show KK 4594 = (14, 600) from rfl) h (by decide)]; rfl
theorem ga_4595 {k : Nat} {F : Int32 → Option β} (h : k < 2000) : (aI (mg 4625 I J R) 4595 14 (Int32.ofNat (k))).bind F = F (I 4595 k) := by rw [e_aI (a := 4595) (by decide) (show KK 4595 = (14, 2000) from rfl) h (by decide)]; rfl
theorem gw_4595 {k : Nat} {v : Int32} {F : xM → Option β} (h : k < 2000) : (wI (mg 4625 I J R) 4595 (Int32.ofNat (k)) v).bind F = F (mg 4625 (up I 4595 k v) J R) := by rw [e_wI (a := 4595) (by decide) (show KK 4595 = (14, 2000) from rfl) h (by decide)]; rfl
theorem ga_4596 {k : Nat} {F : Int32 → Option β} (h : k < 600) : (aI (mg 4625 I J R) 4596 14 (Int32.ofNat (k))).bind F = F (I 4596 k) := by rw [e_aI (a := 4596) (by decide) (show KK 4596 = (14, 600) from rfl) h (by decide)]; rfl
theorem gw_4596 {k : Nat} {v : Int32} {F : xM → Option β} (h : k < 600) : (wI (mg 4625 I J R) 4596 (Int32.ofNat (k)) v).bind F = F (mg 4625 (up I 4596 k v) J R) := by rw [e_wI (a := 4596) (by decide) (show KK 4596 = (14, 600) from rfl) h (by decide)]; rfl
theorem ga_4597 {k : Nat} {F : Int32 → Option β} (h : k < 600) : (aI (mg 4625 I J R) 4597 14 (Int32.ofNat (k))).bind F = F (I 4597 k) := by rw [e_aI (a := 4597) (by decide) (show KK 4597 = (14, 600) from rfl) h (by decide)]; rfl
theorem gw_4597 {k : Nat} {v : Int32} {F : xM → Option β} (h : k < 600) : (wI (mg 4625 I J R) 4597 (Int32.ofNat (k)) v).bind F = F (mg 4625 (up I 4597 k v) J R) := by rw [e_wI (a := 4597) (by decide) (show KK 4597 = (14, 600) from rfl) h (by decide)]; rfl
theorem ga_4598 {k : Nat} {F : Int32 → Option β} (h : k < 200) : (aI (mg 4625 I J R) 4598 14 (Int32.ofNat (k))).bind F = F (I 4598 k) := by rw [e_aI (a := 4598) (by decide) (show KK 4598 = (14, 200) from rfl) h (by decide)]; rfl
theorem gw_4598 {k : Nat} {v : Int32} {F : xM → Option β} (h : k < 200) : (wI (mg 4625 I J R) 4598 (Int32.ofNat (k)) v).bind F = F (mg 4625 (up I 4598 k v) J R) := by rw [e_wI (a := 4598) (by decide) (show KK 4598 = (14, 200) from rfl) h (by decide)]; rfl
theorem ga_4599 {k : Nat} {F : Int32 → Option β} (h : k < 26) : (aI (mg 4625 I J R) 4599 15 (Int32.ofNat (k))).bind F = F (I 4599 k) := by rw [e_aI (a := 4599) (by decide) (show KK 4599 = (15, 26) from rfl) h (by decide)]; rfl
theorem gz_4599 {k : Nat} {v : Int32} {F : xM → Option β} (h : k < 26) (hv : (v == 0 || v == 1) = true) : (wZ (mg 4625 I J R) 4599 (Int32.ofNat (k)) v).bind F = F (mg 4625 (up I 4599 k v) J R) := by rw [owZ_4599, if_pos (by rw [hv, xvi_nat h (by decide)]; rfl), i32_nat (by omega)]; rfl
theorem ga_4600 {k : Nat} {F : Int32 → Option β} (h : k < 800) : (aI (mg 4625 I J R) 4600 14 (Int32.ofNat (k))).bind F = F (I 4600 k) := by rw [e_aI (a := 4600) (by decide) (show KK 4600 = (14, 800) from rfl) h (by decide)]; rfl
theorem gw_4600 {k : Nat} {v : Int32} {F : xM → Option β} (h : k < 800) : (wI (mg 4625 I J R) 4600 (Int32.ofNat (k)) v).bind F = F (mg 4625 (up I 4600 k v) J R) := by rw [e_wI (a := 4600) (by decide) (show KK 4600 = (14, 800) from rfl) h (by decide)]; rfl
theorem ga_4601 {k : Nat} {F : Int32 → Option β} (h : k < 800) : (aI (mg 4625 I J R) 4601 14 (Int32.ofNat (k))).bind F = F (I 4601 k) := by rw [e_aI (a := 4601) (by decide) (show KK 4601 = (14, 800) from rfl) h (by decide)]; rfl
theorem gw_4601 {k : Nat} {v : Int32} {F : xM → Option β} (h : k < 800) : (wI (mg 4625 I J R) 4601 (Int32.ofNat (k)) v).bind F = F (mg 4625 (up I 4601 k v) J R) := by rw [e_wI (a := 4601) (by decide) (show KK 4601 = (14, 800) from rfl) h (by decide)]; rfl
theorem ga_4602 {k : Nat} {F : Int32 → Option β} (h : k < 800) : (aI (mg 4625 I J R) 4602 14 (Int32.ofNat (k))).bind F = F (I 4602 k) := by rw [e_aI (a := 4602) (by decide) (show KK 4602 = (14, 800) from rfl) h (by decide)]; rfl
theorem gw_4602 {k : Nat} {v : Int32} {F : xM → Option β} (h : k < 800) : (wI (mg 4625 I J R) 4602 (Int32.ofNat (k)) v).bind F = F (mg 4625 (up I 4602 k v) J R) := by rw [e_wI (a := 4602) (by decide) (show KK 4602 = (14, 800) from rfl) h (by decide)]; rfl
theorem ga_4603 {k : Nat} {F : Int32 → Option β} (h : k < 800) : (aI (mg 4625 I J R) 4603 14 (Int32.ofNat (k))).bind F = F (I 4603 k) := by rw [e_aI (a := 4603) (by decide) (show KK 4603 = (14, 800) from rfl) h (by decide)]; rfl
theorem gw_4603 {k : Nat} {v : Int32} {F : xM → Option β} (h : k < 800) : (wI (mg 4625 I J R) 4603 (Int32.ofNat (k)) v).bind F = F (mg 4625 (up I 4603 k v) J R) := by rw [e_wI (a := 4603) (by decide) (show KK 4603 = (14, 800) from rfl) h (by decide)]; rfl
theorem ga_4604 {k : Nat} {F : Int32 → Option β} (h : k < 800) : (aI (mg 4625 I J R) 4604 14 (Int32.ofNat (k))).bind F = F (I 4604 k) := by rw [e_aI (a := 4604) (by decide) (show KK 4604 = (14, 800) from rfl) h (by decide)]; rfl
theorem gw_4604 {k : Nat} {v : Int32} {F : xM → Option β} (h : k < 800) : (wI (mg 4625 I J R) 4604 (Int32.ofNat (k)) v).bind F = F (mg 4625 (up I 4604 k v) J R) := by rw [e_wI (a := 4604) (by decide) (show KK 4604 = (14, 800) from rfl) h (by decide)]; rfl
theorem ga_4605 {k : Nat} {F : Int32 → Option β} (h : k < 800) : (aI (mg 4625 I J R) 4605 14 (Int32.ofNat (k))).bind F = F (I 4605 k) := by rw [e_aI (a := 4605) (by decide) (show KK 4605 = (14, 800) from rfl) h (by decide)]; rfl
theorem gw_4605 {k : Nat} {v : Int32} {F : xM → Option β} (h : k < 800) : (wI (mg 4625 I J R) 4605 (Int32.ofNat (k)) v).bind F = F (mg 4625 (up I 4605 k v) J R) := by rw [e_wI (a := 4605) (by decide) (show KK 4605 = (14, 800) from rfl) h (by decide)]; rfl
theorem ga_4606 {k : Nat} {F : Int32 → Option β} (h : k < 800) : (aI (mg 4625 I J R) 4606 14 (Int32.ofNat (k))).bind F = F (I 4606 k) := by rw [e_aI (a := 4606) (by decide) (show KK 4606 = (14, 800) from rfl) h (by decide)]; rfl
theorem gw_4606 {k : Nat} {v : Int32} {F : xM → Option β} (h : k < 800) : (wI (mg 4625 I J R) 4606 (Int32.ofNat (k)) v).bind F = F (mg 4625 (up I 4606 k v) J R) := by rw [e_wI (a := 4606) (by decide) (show KK 4606 = (14, 800) from rfl) h (by decide)]; rfl
theorem ga_4607 {k : Nat} {F : Int32 → Option β} (h : k < 800) : (aI (mg 4625 I J R) 4607 14 (Int32.ofNat (k))).bind F = F (I 4607 k) := by rw [e_aI (a := 4607) (by decide) (show KK 4607 = (14, 800) from rfl) h (by decide)]; rfl
theorem gw_4607 {k : Nat} {v : Int32} {F : xM → Option β} (h : k < 800) : (wI (mg 4625 I J R) 4607 (Int32.ofNat (k)) v).bind F = F (mg 4625 (up I 4607 k v) J R) := by rw [e_wI (a := 4607) (by decide) (show KK 4607 = (14, 800) from rfl) h (by decide)]; rfl
theorem ga_4608 {k : Nat} {F : Int32 → Option β} (h : k < 500) : (aI (mg 4625 I J R) 4608 14 (Int32.ofNat (k))).bind F = F (I 4608 k) := by rw [e_aI (a := 4608) (by decide) (show KK 4608 = (14, 500) from rfl) h (by decide)]; rfl
theorem gw_4608 {k : Nat} {v : Int32} {F : xM → Option β} (h : k < 500) : (wI (mg 4625 I J R) 4608 (Int32.ofNat (k)) v).bind F = F (mg 4625 (up I 4608 k v) J R) := by rw [e_wI (a := 4608) (by decide) (show KK 4608 = (14, 500) from rfl) h (by decide)]; rfl
theorem ga_4609 {k : Nat} {F : Int32 → Option β} (h : k < 500) : (aI (mg 4625 I J R) 4609 14 (Int32.ofNat (k))).bind F = F (I 4609 k) := by rw [e_aI (a := 4609) (by decide) (show KK 4609 = (14, 500) from rfl) h (by decide)]; rfl
theorem gw_4609 {k : Nat} {v : Int32} {F : xM → Option β} (h : k < 500) : (wI (mg 4625 I J R) 4609 (Int32.ofNat (k)) v).bind F = F (mg 4625 (up I 4609 k v) J R) := by rw [e_wI (a := 4609) (by decide) (show KK 4609 = (14, 500) from rfl) h (by decide)]; rfl
theorem ga_4610 {k : Nat} {F : Int32 → Option β} (h : k < 500) : (aI (mg 4625 I J R) 4610 14 (Int32.ofNat (k))).bind F = F (I 4610 k) := by rw [e_aI (a := 4610) (by decide) (show KK 4610 = (14, 500) from rfl) h (by decide)]; rfl
theorem gw_4610 {k : Nat} {v : Int32} {F : xM → Option β} (h : k < 500) : (wI (mg 4625 I J R) 4610 (Int32.ofNat (k)) v).bind F = F (mg 4625 (up I 4610 k v) J R) := by rw [e_wI (a := 4610) (by decide) (show KK 4610 = (14, 500) from rfl) h (by decide)]; rfl
theorem ga_4611 {k : Nat} {F : Int32 → Option β} (h : k < 100) : (aI (mg 4625 I J R) 4611 14 (Int32.ofNat (k))).bind F = F (I 4611 k) := by rw [e_aI (a := 4611) (by decide) (show KK 4611 = (14, 100) from rfl) h (by decide)]; rfl
theorem gw_4611 {k : Nat} {v : Int32} {F : xM → Option β} (h : k < 100) : (wI (mg 4625 I J R) 4611 (Int32.ofNat (k)) v).bind F = F (mg 4625 (up I 4611 k v) J R) := by rw [e_wI (a := 4611) (by decide) (show KK 4611 = (14, 100) from rfl) h (by decide)]; rfl
theorem ga_4612 {k : Nat} {F : Int32 → Option β} (h : k < 100) : (aI (mg 4625 I J R) 4612 14 (Int32.ofNat (k))).bind F = F (I 4612 k) := by rw [e_aI (a := 4612) (by decide) (show KK 4612 = (14, 100) from rfl) h (by decide)]; rfl
theorem gw_4612 {k : Nat} {v : Int32} {F : xM → Option β} (h : k < 100) : (wI (mg 4625 I J R) 4612 (Int32.ofNat (k)) v).bind F = F (mg 4625 (up I 4612 k v) J R) := by rw [e_wI (a := 4612) (by decide) (show KK 4612 = (14, 100) from rfl) h (by decide)]; rfl
theorem ga_4613 {k : Nat} {F : Int32 → Option β} (h : k < 5832) : (aI (mg 4625 I J R) 4613 14 (Int32.ofNat (k))).bind F = F (I 4613 k) := by rw [e_aI (a := 4613) (by decide) (show KK 4613 = (14, 5832) from rfl) h (by decide)]; rfl
theorem gw_4613 {k : Nat} {v : Int32} {F : xM → Option β} (h : k < 5832) : (wI (mg 4625 I J R) 4613 (Int32.ofNat (k)) v).bind F = F (mg 4625 (up I 4613 k v) J R) := by rw [e_wI (a := 4613) (by decide) (show KK 4613 = (14, 5832) from rfl) h (by decide)]; rfl
theorem ga_4614 {k : Nat} {F : Int32 → Option β} (h : k < 27) : (aI (mg 4625 I J R) 4614 14 (Int32.ofNat (k))).bind F = F (I 4614 k) := by rw [e_aI (a := 4614) (by decide) (show KK 4614 = (14, 27) from rfl) h (by decide)]; rfl
theorem gw_4614 {k : Nat} {v : Int32} {F : xM → Option β} (h : k < 27) : (wI (mg 4625 I J R) 4614 (Int32.ofNat (k)) v).bind F = F (mg 4625 (up I 4614 k v) J R) := by rw [e_wI (a := 4614) (by decide) (show KK 4614 = (14, 27) from rfl) h (by decide)]; rfl
theorem ga_4615 {k : Nat} {F : Int32 → Option β} (h : k < 27) : (aI (mg 4625 I J R) 4615 14 (Int32.ofNat (k))).bind F = F (I 4615 k) := by rw [e_aI (a := 4615) (by decide) (show KK 4615 = (14, 27) from rfl) h (by decide)]; rfl
theorem gw_4615 {k : Nat} {v : Int32} {F : xM → Option β} (h : k < 27) : (wI (mg 4625 I J R) 4615 (Int32.ofNat (k)) v).bind F = F (mg 4625 (up I 4615 k v) J R) := by rw [e_wI (a := 4615) (by decide) (show KK 4615 = (14, 27) from rfl) h (by decide)]; rfl
theorem ga_4616 {k : Nat} {F : Int32 → Option β} (h : k < 80) : (aI (mg 4625 I J R) 4616 14 (Int32.ofNat (k))).bind F = F (I 4616 k) := by rw [e_aI (a := 4616) (by decide) (show KK 4616 = (14, 80) from rfl) h (by decide)]; rfl
theorem gw_4616 {k : Nat} {v : Int32} {F : xM → Option β} (h : k < 80) : (wI (mg 4625 I J R) 4616 (Int32.ofNat (k)) v).bind F = F (mg 4625 (up I 4616 k v) J R) := by rw [e_wI (a := 4616) (by decide) (show KK 4616 = (14, 80) from rfl) h (by decide)]; rfl
theorem ga_4617 {k : Nat} {F : Int32 → Option β} (h : k < 20) : (aI (mg 4625 I J R) 4617 14 (Int32.ofNat (k))).bind F = F (I 4617 k) := by rw [e_aI (a := 4617) (by decide) (show KK 4617 = (14, 20) from rfl) h (by decide)]; rfl
theorem gw_4617 {k : Nat} {v : Int32} {F : xM → Option β} (h : k < 20) : (wI (mg 4625 I J R) 4617 (Int32.ofNat (k)) v).bind F = F (mg 4625 (up I 4617 k v) J R) := by rw [e_wI (a := 4617) (by decide) (show KK 4617 = (14, 20) from rfl) h (by decide)]; rfl
theorem ga_4618 {k : Nat} {F : Int32 → Option β} (h : k < 20) : (aI (mg 4625 I J R) 4618 14 (Int32.ofNat (k))).bind F = F (I 4618 k) := by rw [e_aI (a := 4618) (by decide) (show KK 4618 = (14, 20) from rfl) h (by decide)]; rfl
theorem gw_4618 {k : Nat} {v : Int32} {F : xM → Option β} (h : k < 20) : (wI (mg 4625 I J R) 4618 (Int32.ofNat (k)) v).bind F = F (mg 4625 (up I 4618 k v) J R) := by rw [e_wI (a := 4618) (by decide) (show KK 4618 = (14, 20) from rfl) h (by decide)]; rfl
theorem ga_4619 {k : Nat} {F : Int32 → Option β} (h : k < 20) : (aI (mg 4625 I J R) 4619 14 (Int32.ofNat (k))).bind F = F (I 4619 k) := by rw [e_aI (a := 4619) (by decide) (show KK 4619 = (14, 20) from rfl) h (by decide)]; rfl
theorem gw_4619 {k : Nat} {v : Int32} {F : xM → Option β} (h : k < 20) : (wI (mg 4625 I J R) 4619 (Int32.ofNat (k)) v).bind F = F (mg 4625 (up I 4619 k v) J R) := by rw [e_wI (a := 4619) (by decide) (show KK 4619 = (14, 20) from rfl) h (by decide)]; rfl
theorem ga_4620 {k : Nat} {F : Int32 → Option β} (h : k < 20) : (aI (mg 4625 I J R) 4620 14 (Int32.ofNat (k))).bind F = F (I 4620 k) := by rw [e_aI (a := 4620) (by decide) (show KK 4620 = (14, 20) from rfl) h (by decide)]; rfl
theorem gw_4620 {k : Nat} {v : Int32} {F : xM → Option β} (h : k < 20) : (wI (mg 4625 I J R) 4620 (Int32.ofNat (k)) v).bind F = F (mg 4625 (up I 4620 k v) J R) := by rw [e_wI (a := 4620) (by decide) (show KK 4620 = (14, 20) from rfl) h (by decide)]; rfl
theorem ga_4621 {k : Nat} {F : Int32 → Option β} (h : k < 20) : (aI (mg 4625 I J R) 4621 14 (Int32.ofNat (k))).bind F = F (I 4621 k) := by rw [e_aI (a := 4621) (by decide) (show KK 4621 = (14, 20) from rfl) h (by decide)]; rfl
theorem gw_4621 {k : Nat} {v : Int32} {F : xM → Option β} (h : k < 20) : (wI (mg 4625 I J R) 4621 (Int32.ofNat (k)) v).bind F = F (mg 4625 (up I 4621 k v) J R) := by rw [e_wI (a := 4621) (by decide) (show KK 4621 = (14, 20) from rfl) h (by decide)]; rfl
theorem ga_4622 {k : Nat} {F : Int32 → Option β} (h : k < 160) : (aI (mg 4625 I J R) 4622 14 (Int32.ofNat (k))).bind F = F (I 4622 k) := by rw [e_aI (a := 4622) (by decide) (show KK 4622 = (14, 160) from rfl) h (by decide)]; rfl
theorem gw_4622 {k : Nat} {v : Int32} {F : xM → Option β} (h : k < 160) : (wI (mg 4625 I J R) 4622 (Int32.ofNat (k)) v).bind F = F (mg 4625 (up I 4622 k v) J R) := by rw [e_wI (a := 4622) (by decide) (show KK 4622 = (14, 160) from rfl) h (by decide)]; rfl
theorem ga_4623 {k : Nat} {F : Int32 → Option β} (h : k < 122) : (aI (mg 4625 I J R) 4623 14 (Int32.ofNat (k))).bind F = F (I 4623 k) := by rw [e_aI (a := 4623) (by decide) (show KK 4623 = (14, 122) from rfl) h (by decide)]; rfl
theorem gw_4623 {k : Nat} {v : Int32} {F : xM → Option β} (h : k < 122) : (wI (mg 4625 I J R) 4623 (Int32.ofNat (k)) v).bind F = F (mg 4625 (up I 4623 k v) J R) := by rw [e_wI (a := 4623) (by decide) (show KK 4623 = (14, 122) from rfl) h (by decide)]; rfl
end GB
