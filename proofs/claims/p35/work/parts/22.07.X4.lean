-- Rankwise$Machine.restart()V
def f_X4_restart (σ : xM) (l0 : Nat) : Option xM :=
  (sI σ l0 4 3 (0 : Int32)).bind (fun σ1 => (sI σ1 l0 4 4 (0 : Int32)).bind (fun σ2 => (sI σ2 l0 4 12 (0 : Int32)).bind (fun σ3 => (sI σ3 l0 4 13 (0 : Int32)).bind (fun σ4 => (sI σ4 l0 4 18 (0 : Int32)).bind (fun σ5 => some σ5)))))
set_option maxHeartbeats 4000000 in
set_option maxRecDepth 20000 in
theorem m_X4_restart {G : xG} {π : Nat → Nat} {d C Z : Nat} {Q : xQ} {σ : xM} {l0 : Nat} {x : xM} (hf : f_X4_restart σ l0 = some x) (hR : ∀ g, x = g → Q (.inl none) (g) π) : xMach G π J_X4_restart (d + 0) C Z 0 (lv_args 0 [.ref l0]) [] σ Q := by
  unfold f_X4_restart at hf
  refine xm_stL (L' := [(0, .ref l0)]) rfl ?_
  refine xm_aload_n dX4_restart_0 rfl ?_
  refine xm_iconst dX4_restart_1 (v := 0) (by decide) ?_
  refine xb_putI (a := l0) (c := 4) (k := 3) dX4_restart_2 xcl4 (by decide) xw_424 rfl rfl hf (fun σ1 eσ1 hf => ?_)
  refine xm_aload_n dX4_restart_5 rfl ?_
  refine xm_iconst dX4_restart_6 (v := 0) (by decide) ?_
  refine xb_putI (a := l0) (c := 4) (k := 4) dX4_restart_7 xcl4 (by decide) xw_425 rfl rfl hf (fun σ2 eσ2 hf => ?_)
  refine xm_aload_n dX4_restart_10 rfl ?_
  refine xm_iconst dX4_restart_11 (v := 0) (by decide) ?_
  refine xb_putI (a := l0) (c := 4) (k := 12) dX4_restart_12 xcl4 (by decide) xw_433 rfl rfl hf (fun σ3 eσ3 hf => ?_)
  refine xm_aload_n dX4_restart_15 rfl ?_
  refine xm_iconst dX4_restart_16 (v := 0) (by decide) ?_
  refine xb_putI (a := l0) (c := 4) (k := 13) dX4_restart_17 xcl4 (by decide) xw_434 rfl rfl hf (fun σ4 eσ4 hf => ?_)
  refine xm_aload_n dX4_restart_20 rfl ?_
  refine xm_iconst dX4_restart_21 (v := 0) (by decide) ?_
  refine xb_putI (a := l0) (c := 4) (k := 18) dX4_restart_22 xcl4 (by decide) xw_439 rfl rfl hf (fun σ5 eσ5 hf => ?_)
  cases hf
  exact xm_vret dX4_restart_25 rfl (hR _ rfl)
-- Rankwise$Machine.addTask(ILRankwise$Tree;II)I
def f_X4_addTask (σ : xM) (l0 : Nat) (l1 : Int32) (l2 : Option Nat) (l3 : Int32) (l4 : Int32) : Option (Int32 × xM) :=
  (gI σ l0 4 12).bind (fun x1 => (if x1 < (480 : Int32) then (gR σ l0 4 6).bind (fun x2 => (gI σ l0 4 12).bind (fun x3 => (wI σ x2 x3 l1).bind (fun σ4 => (gR σ4 l0 4 7).bind (fun x5 => (gI σ4 l0 4 12).bind (fun x6 => (wQ σ4 x5 17 9 x6 l2).bind (fun σ7 => (gR σ7 l0 4 8).bind (fun x8 => (gI σ7 l0 4 12).bind (fun x9 => (wI σ7 x8 x9 l3).bind (fun σ10 => (gR σ10 l0 4 9).bind (fun x11 => (gI σ10 l0 4 12).bind (fun x12 => (wI σ10 x11 x12 (0 : Int32)).bind (fun σ13 => (gR σ13 l0 4 10).bind (fun x14 => (gI σ13 l0 4 12).bind (fun x15 => (wI σ13 x14 x15 l4).bind (fun σ16 => (gR σ16 l0 4 11).bind (fun x17 => (gI σ16 l0 4 12).bind (fun x18 => (wI σ16 x17 x18 (-1 : Int32)).bind (fun σ19 => (gI σ19 l0 4 12).bind (fun x20 => (sI σ19 l0 4 12 (x20 + (1 : Int32))).bind (fun σ21 => some ((0 : Int32), σ21))))))))))))))))))))) else some ((9 : Int32), σ)))
set_option maxHeartbeats 4000000 in
set_option maxRecDepth 20000 in
theorem m_X4_addTask {G : xG} {π : Nat → Nat} {d C Z : Nat} {Q : xQ} {σ : xM} {l0 : Nat} {l1 : Int32} {l2 : Option Nat} {l3 : Int32} {l4 : Int32} {x : (Int32 × xM)} (hf : f_X4_addTask σ l0 l1 l2 l3 l4 = some x) (hR : ∀ g, x = g → Q (.inl (some (.int g.1))) (g.2) π) : xMach G π J_X4_addTask (d + 0) C Z 0 (lv_args 0 [.ref l0, .int l1, va_rf l2, .int l3, .int l4]) [] σ Q := by
  unfold f_X4_addTask at hf
  refine xm_stL (L' := [(0, .ref l0), (1, .int l1), (2, va_rf l2), (3, .int l3), (4, .int l4)]) (by cases l2 <;> rfl) ?_
  refine xm_aload_n dX4_addTask_0 rfl ?_
  refine xb_getI (a := l0) (c := 4) (k := 12) dX4_addTask_1 xcl4 (by decide) xw_433 rfl hf (fun x1 ex1 hf => ?_)
  refine xm_sipush dX4_addTask_4 (v := 480) (by decide) ?_
  refine xb_icmp_lt 13 dX4_addTask_7 (by decide) hf (fun c hf => ?_) (fun c hf => ?_)
  · refine xm_aload_n dX4_addTask_13 rfl ?_
    refine xb_getR (a := l0) (c := 4) (k := 6) dX4_addTask_14 xcl4 (by decide) xw_427 rfl hf (fun x2 ex2 hf => ?_)
    refine xm_aload_n dX4_addTask_17 rfl ?_
    refine xb_getI (a := l0) (c := 4) (k := 12) dX4_addTask_18 xcl4 (by decide) xw_433 rfl hf (fun x3 ex3 hf => ?_)
    refine xm_iload_n dX4_addTask_21 rfl ?_
    refine xb_iast dX4_addTask_22 hf (fun σ4 eσ4 hf => ?_)
    refine xm_aload_n dX4_addTask_23 rfl ?_
    refine xb_getR (a := l0) (c := 4) (k := 7) dX4_addTask_24 xcl4 (by decide) xw_428 rfl hf (fun x5 ex5 hf => ?_)
    refine xm_aload_n dX4_addTask_27 rfl ?_
    refine xb_getI (a := l0) (c := 4) (k := 12) dX4_addTask_28 xcl4 (by decide) xw_433 rfl hf (fun x6 ex6 hf => ?_)
    refine xm_aloadQ_n dX4_addTask_31 rfl ?_
    refine xb_aastQ dX4_addTask_32 (by decide) hf (fun σ7 eσ7 hf => ?_)
    refine xm_aload_n dX4_addTask_33 rfl ?_
    refine xb_getR (a := l0) (c := 4) (k := 8) dX4_addTask_34 xcl4 (by decide) xw_429 rfl hf (fun x8 ex8 hf => ?_)
    refine xm_aload_n dX4_addTask_37 rfl ?_
    refine xb_getI (a := l0) (c := 4) (k := 12) dX4_addTask_38 xcl4 (by decide) xw_433 rfl hf (fun x9 ex9 hf => ?_)
    refine xm_iload_n dX4_addTask_41 rfl ?_
    refine xb_iast dX4_addTask_42 hf (fun σ10 eσ10 hf => ?_)
    refine xm_aload_n dX4_addTask_43 rfl ?_
    refine xb_getR (a := l0) (c := 4) (k := 9) dX4_addTask_44 xcl4 (by decide) xw_430 rfl hf (fun x11 ex11 hf => ?_)
    refine xm_aload_n dX4_addTask_47 rfl ?_
    refine xb_getI (a := l0) (c := 4) (k := 12) dX4_addTask_48 xcl4 (by decide) xw_433 rfl hf (fun x12 ex12 hf => ?_)
    refine xm_iconst dX4_addTask_51 (v := 0) (by decide) ?_
    refine xb_iast dX4_addTask_52 hf (fun σ13 eσ13 hf => ?_)
    refine xm_aload_n dX4_addTask_53 rfl ?_
    refine xb_getR (a := l0) (c := 4) (k := 10) dX4_addTask_54 xcl4 (by decide) xw_431 rfl hf (fun x14 ex14 hf => ?_)
    refine xm_aload_n dX4_addTask_57 rfl ?_
    refine xb_getI (a := l0) (c := 4) (k := 12) dX4_addTask_58 xcl4 (by decide) xw_433 rfl hf (fun x15 ex15 hf => ?_)
    refine xm_iload dX4_addTask_61 rfl ?_
    refine xb_iast dX4_addTask_63 hf (fun σ16 eσ16 hf => ?_)
    refine xm_aload_n dX4_addTask_64 rfl ?_
    refine xb_getR (a := l0) (c := 4) (k := 11) dX4_addTask_65 xcl4 (by decide) xw_432 rfl hf (fun x17 ex17 hf => ?_)
    refine xm_aload_n dX4_addTask_68 rfl ?_
    refine xb_getI (a := l0) (c := 4) (k := 12) dX4_addTask_69 xcl4 (by decide) xw_433 rfl hf (fun x18 ex18 hf => ?_)
    refine xm_iconst dX4_addTask_72 (v := -1) (by decide) ?_
    refine xb_iast dX4_addTask_73 hf (fun σ19 eσ19 hf => ?_)
    refine xm_aload_n dX4_addTask_74 rfl ?_
    refine xm_dup dX4_addTask_75 rfl ?_
    refine xb_getI (a := l0) (c := 4) (k := 12) dX4_addTask_76 xcl4 (by decide) xw_433 rfl hf (fun x20 ex20 hf => ?_)
    refine xm_iconst dX4_addTask_79 (v := 1) (by decide) ?_
    refine xm_iadd dX4_addTask_80 ?_
    refine xb_putI (a := l0) (c := 4) (k := 12) dX4_addTask_81 xcl4 (by decide) xw_433 rfl rfl hf (fun σ21 eσ21 hf => ?_)
    refine xm_iconst dX4_addTask_84 (v := 0) (by decide) ?_
    cases hf
    exact xm_iret dX4_addTask_85 rfl (hR _ rfl)
  · refine xm_bipush dX4_addTask_10 (v := 9) (by decide) ?_
    cases hf
    exact xm_iret dX4_addTask_12 rfl (hR _ rfl)
-- Rankwise$Machine.begin(LRankwise$Tree;II)I
def f_X4_begin_j29 (σ : xM) (l0 : Nat) (l1 : Nat) (l2 : Int32) (l3 : Int32) (s0 : Int32) : Option (Int32 × xM) :=
  (if xk σ l0 4 = true then (f_X4_addTask σ l0 s0 (some l1) l2 l3).bind (fun p3 => some (p3.1, p3.2)) else none)
set_option maxHeartbeats 4000000 in
set_option maxRecDepth 20000 in
theorem L_X4_begin_j29 {G : xG} {π : Nat → Nat} {d C Z : Nat} {Q : xQ} (σ : xM) (l0 : Nat) (l1 : Nat) (l2 : Int32) (l3 : Int32) (s0 : Int32) {x : (Int32 × xM)} (hf : f_X4_begin_j29 σ l0 l1 l2 l3 s0 = some x) (hR : ∀ g, x = g → Q (.inl (some (.int g.1))) (g.2) π) : xMach G π J_X4_begin (d + 1) C Z 29 [(0, .ref l0), (1, .ref l1), (2, .int l2), (3, .int l3)] [.int s0] σ Q := by
  unfold f_X4_begin_j29 at hf
  refine xm_istore dX4_begin_29 (by decide) (xm_stL (L' := [(4, .int s0), (0, .ref l0), (1, .ref l1), (2, .int l2), (3, .int l3)]) rfl ?_)
  refine xm_aload_n dX4_begin_31 rfl ?_
  refine xm_iload dX4_begin_32 rfl ?_
  refine xm_aload_n dX4_begin_34 rfl ?_
  refine xm_iload_n dX4_begin_35 rfl ?_
  refine xm_iload_n dX4_begin_36 rfl ?_
  refine xb_if hf (fun hb hf => ?_) (fun _ q => nomatch q)
  obtain ⟨p3, ep3, hf⟩ := xbind hf
  refine xb_callV (As := [.int s0, va_rf (some l1), .int l2, .int l3]) (v0 := (some (.int p3.1))) (τ0 := p3.2) dX4_begin_37 (xc_X4_addTask _ _) xcl4 xw_943 xw_945 xs_21 hb rfl (Nat.le_of_ble_eq_true rfl) rfl (Nat.le_of_ble_eq_true rfl) (fun Q1 hq => m_X4_addTask (d := d + 0) ep3 (fun g hg => by subst hg; exact hq)) ?_
  cases hf
  exact xm_iret dX4_begin_40 rfl (hR _ rfl)
def f_X4_begin (σ : xM) (l0 : Nat) (l1 : Nat) (l2 : Int32) (l3 : Int32) : Option (Int32 × xM) :=
  (if xk σ l1 9 = true then (f_X9_isCallOf σ l1 l2 (105 : Int32)).bind (fun p1 => (if p1 = (0 : Int32) then (if xk σ l1 9 = true then (f_X9_isCallOf σ l1 l2 (115 : Int32)).bind (fun p2 => (if p2 = (0 : Int32) then f_X4_begin_j29 σ l0 l1 l2 l3 (0 : Int32) else f_X4_begin_j29 σ l0 l1 l2 l3 (2 : Int32))) else none) else f_X4_begin_j29 σ l0 l1 l2 l3 (1 : Int32))) else none)
set_option maxHeartbeats 4000000 in
set_option maxRecDepth 20000 in
theorem m_X4_begin {G : xG} {π : Nat → Nat} {d C Z : Nat} {Q : xQ} {σ : xM} {l0 : Nat} {l1 : Nat} {l2 : Int32} {l3 : Int32} {x : (Int32 × xM)} (hf : f_X4_begin σ l0 l1 l2 l3 = some x) (hR : ∀ g, x = g → Q (.inl (some (.int g.1))) (g.2) π) : xMach G π J_X4_begin (d + 1) C Z 0 (lv_args 0 [.ref l0, .ref l1, .int l2, .int l3]) [] σ Q := by
  unfold f_X4_begin at hf
  refine xm_stL (L' := [(0, .ref l0), (1, .ref l1), (2, .int l2), (3, .int l3)]) rfl ?_
  refine xm_aload_n dX4_begin_0 rfl ?_
  refine xm_iload_n dX4_begin_1 rfl ?_
  refine xm_bipush dX4_begin_2 (v := 105) (by decide) ?_
  refine xb_if hf (fun hb hf => ?_) (fun _ q => nomatch q)
  obtain ⟨p1, ep1, hf⟩ := xbind hf
  refine xb_callV (As := [.int l2, .int (105 : Int32)]) (v0 := (some (.int p1))) (τ0 := σ) dX4_begin_4 (xc_X9_isCallOf _ _) xcl9 xw_939 xw_940 xw_941 hb rfl (Nat.le_of_ble_eq_true rfl) rfl (Nat.le_of_ble_eq_true rfl) (fun Q1 hq => m_X9_isCallOf (d := d + 0) ep1 (fun g hg => by subst hg; exact hq)) ?_
  refine xb_if_eq 14 dX4_begin_7 (by decide) hf (fun c hf => ?_) (fun c hf => ?_)
  · refine xm_aload_n dX4_begin_14 rfl ?_
    refine xm_iload_n dX4_begin_15 rfl ?_
    refine xm_bipush dX4_begin_16 (v := 115) (by decide) ?_
    refine xb_if hf (fun hb hf => ?_) (fun _ q => nomatch q)
    obtain ⟨p2, ep2, hf⟩ := xbind hf
    refine xb_callV (As := [.int l2, .int (115 : Int32)]) (v0 := (some (.int p2))) (τ0 := σ) dX4_begin_18 (xc_X9_isCallOf _ _) xcl9 xw_939 xw_940 xw_941 hb rfl (Nat.le_of_ble_eq_true rfl) rfl (Nat.le_of_ble_eq_true rfl) (fun Q1 hq => m_X9_isCallOf (d := d + 0) ep2 (fun g hg => by subst hg; exact hq)) ?_
    refine xb_if_eq 28 dX4_begin_21 (by decide) hf (fun c hf => ?_) (fun c hf => ?_)
    · refine xm_iconst dX4_begin_28 (v := 0) (by decide) ?_
      exact xm_sub [0, 1, 2, 3] rfl (L_X4_begin_j29 σ l0 l1 l2 l3 (0 : Int32) hf hR)
    · refine xm_iconst dX4_begin_24 (v := 2) (by decide) ?_
      refine xm_goto 29 dX4_begin_25 (by decide) ?_
      exact xm_sub [0, 1, 2, 3] rfl (L_X4_begin_j29 σ l0 l1 l2 l3 (2 : Int32) hf hR)
  · refine xm_iconst dX4_begin_10 (v := 1) (by decide) ?_
    refine xm_goto 29 dX4_begin_11 (by decide) ?_
    exact xm_sub [0, 1, 2, 3] rfl (L_X4_begin_j29 σ l0 l1 l2 l3 (1 : Int32) hf hR)
-- Rankwise$Machine.startTree(LRankwise$Tree;)V
def f_X4_startTree (σ : xM) (l0 : Nat) (l1 : Nat) : Option xM :=
  (if xk σ l0 4 = true then (f_X4_restart σ l0).bind (fun p1 => (if xk p1 l0 4 = true then (f_X4_begin p1 l0 l1 (0 : Int32) (-1 : Int32)).bind (fun p2 => some p2.2) else none)) else none)
set_option maxHeartbeats 4000000 in
set_option maxRecDepth 20000 in
theorem m_X4_startTree {G : xG} {π : Nat → Nat} {d C Z : Nat} {Q : xQ} {σ : xM} {l0 : Nat} {l1 : Nat} {x : xM} (hf : f_X4_startTree σ l0 l1 = some x) (hR : ∀ g, x = g → Q (.inl none) (g) π) : xMach G π J_X4_startTree (d + 2) C Z 0 (lv_args 0 [.ref l0, .ref l1]) [] σ Q := by
  unfold f_X4_startTree at hf
  refine xm_stL (L' := [(0, .ref l0), (1, .ref l1)]) rfl ?_
  refine xm_aload_n dX4_startTree_0 rfl ?_
  refine xb_if hf (fun hb hf => ?_) (fun _ q => nomatch q)
  obtain ⟨p1, ep1, hf⟩ := xbind hf
  refine xb_callV (As := []) (v0 := none) (τ0 := p1) dX4_startTree_1 (xc_X4_restart _ _) xcl4 xw_931 xw_932 xw_933 hb rfl (Nat.le_of_ble_eq_true rfl) rfl (Nat.le_of_ble_eq_true rfl) (fun Q1 hq => m_X4_restart (d := d + 1) ep1 (fun g hg => by subst hg; exact hq)) ?_
  refine xm_aload_n dX4_startTree_4 rfl ?_
  refine xm_aload_n dX4_startTree_5 rfl ?_
  refine xm_iconst dX4_startTree_6 (v := 0) (by decide) ?_
  refine xm_iconst dX4_startTree_7 (v := -1) (by decide) ?_
  refine xb_if hf (fun hb hf => ?_) (fun _ q => nomatch q)
  obtain ⟨p2, ep2, hf⟩ := xbind hf
  refine xb_callV (As := [.ref l1, .int (0 : Int32), .int (-1 : Int32)]) (v0 := (some (.int p2.1))) (τ0 := p2.2) dX4_startTree_8 (xc_X4_begin _ _) xcl4 xw_935 xw_937 xs_20 hb rfl (Nat.le_of_ble_eq_true rfl) rfl (Nat.le_of_ble_eq_true rfl) (fun Q1 hq => m_X4_begin (d := d + 0) ep2 (fun g hg => by subst hg; exact hq)) ?_
  refine xm_pop dX4_startTree_11 rfl ?_
  cases hf
  exact xm_vret dX4_startTree_12 rfl (hR _ rfl)
-- Rankwise$Machine.closeCall(II)I
def f_X4_closeCall_j34 (σ : xM)  : Option (Int32 × xM) :=
  some ((6 : Int32), σ)
set_option maxHeartbeats 4000000 in
set_option maxRecDepth 20000 in
theorem L_X4_closeCall_j34 {G : xG} {π : Nat → Nat} {d C Z : Nat} {Q : xQ} (σ : xM)  {x : (Int32 × xM)} (hf : f_X4_closeCall_j34 σ = some x) (hR : ∀ g, x = g → Q (.inl (some (.int g.1))) (g.2) π) : xMach G π J_X4_closeCall (d + 3) C Z 34 [] [] σ Q := by
  unfold f_X4_closeCall_j34 at hf
  refine xm_bipush dX4_closeCall_34 (v := 6) (by decide) ?_
  cases hf
  exact xm_iret dX4_closeCall_36 rfl (hR _ rfl)
def f_X4_closeCall_j21 (σ : xM) (l0 : Nat) (l1 : Int32) (l2 : Int32) (s0 : Int32) : Option (Int32 × xM) :=
  (if s0 < (0 : Int32) then f_X4_closeCall_j34 σ else (gI σ l0 4 3).bind (fun x1 => (if s0 < x1 then (gR σ l0 4 2).bind (fun x2 => ((aR σ x2 16 s0).bind id).bind (fun x3 => (gR σ l0 4 2).bind (fun x4 => (gI σ l0 4 3).bind (fun x5 => ((aR σ x4 16 (x5 - (1 : Int32))).bind id).bind (fun x6 => (if xk σ x3 2 = true then (f_X2_copy σ x3 x6).bind (fun p7 => (sI p7 l0 4 3 (s0 + (1 : Int32))).bind (fun σ8 => (sI σ8 l0 4 18 l2).bind (fun σ9 => (gI σ9 l0 4 13).bind (fun x10 => (sI σ9 l0 4 13 (x10 - (1 : Int32))).bind (fun σ11 => (sI σ11 l0 4 12 l1).bind (fun σ12 => some ((0 : Int32), σ12))))))) else none)))))) else f_X4_closeCall_j34 σ)))
set_option maxHeartbeats 4000000 in
set_option maxRecDepth 20000 in
theorem L_X4_closeCall_j21 {G : xG} {π : Nat → Nat} {d C Z : Nat} {Q : xQ} (σ : xM) (l0 : Nat) (l1 : Int32) (l2 : Int32) (s0 : Int32) {x : (Int32 × xM)} (hf : f_X4_closeCall_j21 σ l0 l1 l2 s0 = some x) (hR : ∀ g, x = g → Q (.inl (some (.int g.1))) (g.2) π) : xMach G π J_X4_closeCall (d + 3) C Z 21 [(0, .ref l0), (1, .int l1), (2, .int l2)] [.int s0] σ Q := by
  unfold f_X4_closeCall_j21 at hf
  refine xm_istore_n dX4_closeCall_21 (by decide) (xm_stL (L' := [(3, .int s0), (0, .ref l0), (1, .int l1), (2, .int l2)]) rfl ?_)
  refine xm_iload_n dX4_closeCall_22 rfl ?_
  refine xb_if_lt 34 dX4_closeCall_23 (by decide) hf (fun c hf => ?_) (fun c hf => ?_)
  · exact xm_sub [] rfl (L_X4_closeCall_j34 σ hf hR)
  · refine xm_iload_n dX4_closeCall_26 rfl ?_
    refine xm_aload_n dX4_closeCall_27 rfl ?_
    refine xb_getI (a := l0) (c := 4) (k := 3) dX4_closeCall_28 xcl4 (by decide) xw_424 rfl hf (fun x1 ex1 hf => ?_)
    refine xb_icmp_lt 37 dX4_closeCall_31 (by decide) hf (fun c hf => ?_) (fun c hf => ?_)
    · refine xm_aload_n dX4_closeCall_37 rfl ?_
      refine xb_getR (a := l0) (c := 4) (k := 2) dX4_closeCall_38 xcl4 (by decide) xw_423 rfl hf (fun x2 ex2 hf => ?_)
      refine xm_iload_n dX4_closeCall_41 rfl ?_
      refine xb_aaldS dX4_closeCall_42 (by decide) hf (fun x3 ex3 hf => ?_)
      refine xm_aload_n dX4_closeCall_43 rfl ?_
      refine xb_getR (a := l0) (c := 4) (k := 2) dX4_closeCall_44 xcl4 (by decide) xw_423 rfl hf (fun x4 ex4 hf => ?_)
      refine xm_aload_n dX4_closeCall_47 rfl ?_
      refine xb_getI (a := l0) (c := 4) (k := 3) dX4_closeCall_48 xcl4 (by decide) xw_424 rfl hf (fun x5 ex5 hf => ?_)
      refine xm_iconst dX4_closeCall_51 (v := 1) (by decide) ?_
      refine xm_isub dX4_closeCall_52 ?_
      refine xb_aaldS dX4_closeCall_53 (by decide) hf (fun x6 ex6 hf => ?_)
      refine xb_if hf (fun hb hf => ?_) (fun _ q => nomatch q)
      obtain ⟨p7, ep7, hf⟩ := xbind hf
      refine xb_callV (As := [.ref x6]) (v0 := none) (τ0 := p7) dX4_closeCall_54 (xc_X2_copy _ _) xcl2 xw_964 xw_965 xw_966 hb rfl (Nat.le_of_ble_eq_true rfl) rfl (Nat.le_of_ble_eq_true rfl) (fun Q1 hq => m_X2_copy (d := d + 0) ep7 (fun g hg => by subst hg; exact hq)) ?_
      refine xm_aload_n dX4_closeCall_57 rfl ?_
      refine xm_iload_n dX4_closeCall_58 rfl ?_
      refine xm_iconst dX4_closeCall_59 (v := 1) (by decide) ?_
      refine xm_iadd dX4_closeCall_60 ?_
      refine xb_putI (a := l0) (c := 4) (k := 3) dX4_closeCall_61 xcl4 (by decide) xw_424 rfl rfl hf (fun σ8 eσ8 hf => ?_)
      refine xm_aload_n dX4_closeCall_64 rfl ?_
      refine xm_iload_n dX4_closeCall_65 rfl ?_
      refine xb_putI (a := l0) (c := 4) (k := 18) dX4_closeCall_66 xcl4 (by decide) xw_439 rfl rfl hf (fun σ9 eσ9 hf => ?_)
      refine xm_aload_n dX4_closeCall_69 rfl ?_
      refine xm_dup dX4_closeCall_70 rfl ?_
      refine xb_getI (a := l0) (c := 4) (k := 13) dX4_closeCall_71 xcl4 (by decide) xw_434 rfl hf (fun x10 ex10 hf => ?_)
      refine xm_iconst dX4_closeCall_74 (v := 1) (by decide) ?_
      refine xm_isub dX4_closeCall_75 ?_
      refine xb_putI (a := l0) (c := 4) (k := 13) dX4_closeCall_76 xcl4 (by decide) xw_434 rfl rfl hf (fun σ11 eσ11 hf => ?_)
      refine xm_aload_n dX4_closeCall_79 rfl ?_
      refine xm_iload_n dX4_closeCall_80 rfl ?_
      refine xb_putI (a := l0) (c := 4) (k := 12) dX4_closeCall_81 xcl4 (by decide) xw_433 rfl rfl hf (fun σ12 eσ12 hf => ?_)
      refine xm_iconst dX4_closeCall_84 (v := 0) (by decide) ?_
      cases hf
      exact xm_iret dX4_closeCall_85 rfl (hR _ rfl)
    · exact xm_sub [] rfl (L_X4_closeCall_j34 σ hf hR)
def f_X4_closeCall_j20 (σ : xM) (l0 : Nat) (l1 : Int32) (l2 : Int32) : Option (Int32 × xM) :=
  f_X4_closeCall_j21 σ l0 l1 l2 (-1 : Int32)
set_option maxHeartbeats 4000000 in
set_option maxRecDepth 20000 in
theorem L_X4_closeCall_j20 {G : xG} {π : Nat → Nat} {d C Z : Nat} {Q : xQ} (σ : xM) (l0 : Nat) (l1 : Int32) (l2 : Int32) {x : (Int32 × xM)} (hf : f_X4_closeCall_j20 σ l0 l1 l2 = some x) (hR : ∀ g, x = g → Q (.inl (some (.int g.1))) (g.2) π) : xMach G π J_X4_closeCall (d + 3) C Z 20 [(0, .ref l0), (1, .int l1), (2, .int l2)] [] σ Q := by
  unfold f_X4_closeCall_j20 at hf
  refine xm_iconst dX4_closeCall_20 (v := -1) (by decide) ?_
  exact xm_sub [0, 1, 2] rfl (L_X4_closeCall_j21 σ l0 l1 l2 (-1 : Int32) hf hR)
def f_X4_closeCall (σ : xM) (l0 : Nat) (l1 : Int32) (l2 : Int32) : Option (Int32 × xM) :=
  (if l2 < (0 : Int32) then f_X4_closeCall_j20 σ l0 l1 l2 else (if (240 : Int32) ≤ l2 then f_X4_closeCall_j20 σ l0 l1 l2 else (gR σ l0 4 16).bind (fun x13 => (aI σ x13 14 l2).bind (fun x14 => f_X4_closeCall_j21 σ l0 l1 l2 x14))))
set_option maxHeartbeats 4000000 in
set_option maxRecDepth 20000 in
theorem m_X4_closeCall {G : xG} {π : Nat → Nat} {d C Z : Nat} {Q : xQ} {σ : xM} {l0 : Nat} {l1 : Int32} {l2 : Int32} {x : (Int32 × xM)} (hf : f_X4_closeCall σ l0 l1 l2 = some x) (hR : ∀ g, x = g → Q (.inl (some (.int g.1))) (g.2) π) : xMach G π J_X4_closeCall (d + 3) C Z 0 (lv_args 0 [.ref l0, .int l1, .int l2]) [] σ Q := by
  unfold f_X4_closeCall at hf
  refine xm_stL (L' := [(0, .ref l0), (1, .int l1), (2, .int l2)]) rfl ?_
  refine xm_iload_n dX4_closeCall_0 rfl ?_
  refine xb_if_lt 20 dX4_closeCall_1 (by decide) hf (fun c hf => ?_) (fun c hf => ?_)
  · exact xm_sub [0, 1, 2] rfl (L_X4_closeCall_j20 σ l0 l1 l2 hf hR)
  · refine xm_iload_n dX4_closeCall_4 rfl ?_
    refine xm_sipush dX4_closeCall_5 (v := 240) (by decide) ?_
    refine xb_icmp_ge 20 dX4_closeCall_8 (by decide) hf (fun c hf => ?_) (fun c hf => ?_)
    · exact xm_sub [0, 1, 2] rfl (L_X4_closeCall_j20 σ l0 l1 l2 hf hR)
    · refine xm_aload_n dX4_closeCall_11 rfl ?_
      refine xb_getR (a := l0) (c := 4) (k := 16) dX4_closeCall_12 xcl4 (by decide) xw_437 rfl hf (fun x13 ex13 hf => ?_)
      refine xm_iload_n dX4_closeCall_15 rfl ?_
      refine xb_iald dX4_closeCall_16 hf (fun x14 ex14 hf => ?_)
      refine xm_goto 21 dX4_closeCall_17 (by decide) ?_
      exact xm_sub [0, 1, 2] rfl (L_X4_closeCall_j21 σ l0 l1 l2 x14 hf hR)
-- Rankwise$Machine.beginValue(III)I
def f_X4_beginValue_j62 (σ : xM) (s0 : Int32) : Option (Int32 × xM) :=
  some (s0, σ)
set_option maxHeartbeats 4000000 in
set_option maxRecDepth 20000 in
theorem L_X4_beginValue_j62 {G : xG} {π : Nat → Nat} {d C Z : Nat} {Q : xQ} (σ : xM) (s0 : Int32) {x : (Int32 × xM)} (hf : f_X4_beginValue_j62 σ s0 = some x) (hR : ∀ g, x = g → Q (.inl (some (.int g.1))) (g.2) π) : xMach G π J_X4_beginValue (d + 2) C Z 62 [] [.int s0] σ Q := by
  unfold f_X4_beginValue_j62 at hf
  cases hf
  exact xm_iret dX4_beginValue_62 rfl (hR _ rfl)
def f_X4_beginValue_j27 (σ : xM) (s0 : Int32) : Option (Int32 × xM) :=
  some (s0, σ)
set_option maxHeartbeats 4000000 in
set_option maxRecDepth 20000 in
theorem L_X4_beginValue_j27 {G : xG} {π : Nat → Nat} {d C Z : Nat} {Q : xQ} (σ : xM) (s0 : Int32) {x : (Int32 × xM)} (hf : f_X4_beginValue_j27 σ s0 = some x) (hR : ∀ g, x = g → Q (.inl (some (.int g.1))) (g.2) π) : xMach G π J_X4_beginValue (d + 2) C Z 27 [] [.int s0] σ Q := by
  unfold f_X4_beginValue_j27 at hf
  cases hf
  exact xm_iret dX4_beginValue_27 rfl (hR _ rfl)
def f_X4_beginValue (σ : xM) (l0 : Nat) (l1 : Int32) (l2 : Int32) (l3 : Int32) : Option (Int32 × xM) :=
  (gR σ l0 4 11).bind (fun x1 => (aI σ x1 14 l1).bind (fun x2 => (if (0 : Int32) ≤ x2 then (gR σ l0 4 0).bind (fun x3 => (gR σ l0 4 11).bind (fun x4 => (aI σ x4 14 l1).bind (fun x5 => (if xk σ x3 1 = true then (f_X1_valueOf σ x3 l2 x5).bind (fun p6 => (Option.elim p6 (f_X4_beginValue_j62 σ (6 : Int32)) (fun a7 => (if xk σ l0 4 = true then (f_X4_begin σ l0 a7 (0 : Int32) l3).bind (fun p8 => f_X4_beginValue_j62 p8.2 p8.1) else none)))) else none)))) else (gR σ l0 4 11).bind (fun x9 => (aI σ x9 14 l1).bind (fun x10 => (if x10 = (-2 : Int32) then f_X4_beginValue_j27 σ (7 : Int32) else f_X4_beginValue_j27 σ (6 : Int32)))))))
set_option maxHeartbeats 4000000 in
set_option maxRecDepth 20000 in
theorem m_X4_beginValue {G : xG} {π : Nat → Nat} {d C Z : Nat} {Q : xQ} {σ : xM} {l0 : Nat} {l1 : Int32} {l2 : Int32} {l3 : Int32} {x : (Int32 × xM)} (hf : f_X4_beginValue σ l0 l1 l2 l3 = some x) (hR : ∀ g, x = g → Q (.inl (some (.int g.1))) (g.2) π) : xMach G π J_X4_beginValue (d + 2) C Z 0 (lv_args 0 [.ref l0, .int l1, .int l2, .int l3]) [] σ Q := by
  unfold f_X4_beginValue at hf
  refine xm_stL (L' := [(0, .ref l0), (1, .int l1), (2, .int l2), (3, .int l3)]) rfl ?_
  refine xm_aload_n dX4_beginValue_0 rfl ?_
  refine xb_getR (a := l0) (c := 4) (k := 11) dX4_beginValue_1 xcl4 (by decide) xw_432 rfl hf (fun x1 ex1 hf => ?_)
  refine xm_iload_n dX4_beginValue_4 rfl ?_
  refine xb_iald dX4_beginValue_5 hf (fun x2 ex2 hf => ?_)
  refine xb_if_ge 28 dX4_beginValue_6 (by decide) hf (fun c hf => ?_) (fun c hf => ?_)
  · refine xm_aload_n dX4_beginValue_28 rfl ?_
    refine xb_getR (a := l0) (c := 4) (k := 0) dX4_beginValue_29 xcl4 (by decide) xw_421 rfl hf (fun x3 ex3 hf => ?_)
    refine xm_iload_n dX4_beginValue_32 rfl ?_
    refine xm_aload_n dX4_beginValue_33 rfl ?_
    refine xb_getR (a := l0) (c := 4) (k := 11) dX4_beginValue_34 xcl4 (by decide) xw_432 rfl hf (fun x4 ex4 hf => ?_)
    refine xm_iload_n dX4_beginValue_37 rfl ?_
    refine xb_iald dX4_beginValue_38 hf (fun x5 ex5 hf => ?_)
    refine xb_if hf (fun hb hf => ?_) (fun _ q => nomatch q)
    obtain ⟨p6, ep6, hf⟩ := xbind hf
    refine xb_callV (As := [.int l2, .int x5]) (v0 := (some (va_rf p6))) (τ0 := σ) dX4_beginValue_39 (xc_X1_valueOf _ _) xcl1 xw_980 xw_981 xw_982 hb rfl (Nat.le_of_ble_eq_true rfl) rfl (Nat.le_of_ble_eq_true rfl) (fun Q1 hq => m_X1_valueOf (d := d + 0) ep6 (fun g hg => by subst hg; exact hq)) ?_
    refine xm_astoreQ (t := p6) dX4_beginValue_42 (by decide) (xm_stL (L' := [(4, va_rf p6), (0, .ref l0), (1, .int l1), (2, .int l2), (3, .int l3)]) (by cases p6 <;> rfl) ?_)
    refine xm_aloadQ dX4_beginValue_44 rfl ?_
    refine xb_ifnonnullQ 54 dX4_beginValue_46 (by decide) hf (fun c hf => ?_) (fun a7 c hf => ?_)
    · subst c
      refine xm_bipush dX4_beginValue_49 (v := 6) (by decide) ?_
      refine xm_goto 62 dX4_beginValue_51 (by decide) ?_
      exact xm_sub [] rfl (L_X4_beginValue_j62 σ (6 : Int32) hf hR)
    · subst c
      refine xm_aload_n dX4_beginValue_54 rfl ?_
      refine xm_aload dX4_beginValue_55 rfl ?_
      refine xm_iconst dX4_beginValue_57 (v := 0) (by decide) ?_
      refine xm_iload_n dX4_beginValue_58 rfl ?_
      refine xb_if hf (fun hb hf => ?_) (fun _ q => nomatch q)
      obtain ⟨p8, ep8, hf⟩ := xbind hf
      refine xb_callV (As := [.ref a7, .int (0 : Int32), .int l3]) (v0 := (some (.int p8.1))) (τ0 := p8.2) dX4_beginValue_59 (xc_X4_begin _ _) xcl4 xw_935 xw_937 xs_20 hb rfl (Nat.le_of_ble_eq_true rfl) rfl (Nat.le_of_ble_eq_true rfl) (fun Q1 hq => m_X4_begin (d := d + 0) ep8 (fun g hg => by subst hg; exact hq)) ?_
      exact xm_sub [] rfl (L_X4_beginValue_j62 p8.2 p8.1 hf hR)
  · refine xm_aload_n dX4_beginValue_9 rfl ?_
    refine xb_getR (a := l0) (c := 4) (k := 11) dX4_beginValue_10 xcl4 (by decide) xw_432 rfl hf (fun x9 ex9 hf => ?_)
    refine xm_iload_n dX4_beginValue_13 rfl ?_
    refine xb_iald dX4_beginValue_14 hf (fun x10 ex10 hf => ?_)
    refine xm_bipush dX4_beginValue_15 (v := -2) (by decide) ?_
    refine xb_icmp_ne 25 dX4_beginValue_17 (by decide) hf (fun c hf => ?_) (fun c hf => ?_)
    · refine xm_bipush dX4_beginValue_25 (v := 6) (by decide) ?_
      exact xm_sub [] rfl (L_X4_beginValue_j27 σ (6 : Int32) hf hR)
    · refine xm_bipush dX4_beginValue_20 (v := 7) (by decide) ?_
      refine xm_goto 27 dX4_beginValue_22 (by decide) ?_
      exact xm_sub [] rfl (L_X4_beginValue_j27 σ (7 : Int32) hf hR)
-- Rankwise$Machine.noteCase(IIZ)V
def f_X4_noteCase_j26 (σ : xM)  : Option xM :=
  some σ
set_option maxHeartbeats 4000000 in
set_option maxRecDepth 20000 in
theorem L_X4_noteCase_j26 {G : xG} {π : Nat → Nat} {d C Z : Nat} {Q : xQ} (σ : xM)  {x : xM} (hf : f_X4_noteCase_j26 σ = some x) (hR : ∀ g, x = g → Q (.inl none) (g) π) : xMach G π J_X4_noteCase (d + 0) C Z 26 [] [] σ Q := by
  unfold f_X4_noteCase_j26 at hf
  cases hf
  exact xm_vret dX4_noteCase_26 rfl (hR _ rfl)
def f_X4_noteCase_j25 (σ : xM) (s0 : Int32) (s1 : Int32) (s2 : Nat) : Option xM :=
  (wI σ s2 s1 s0).bind (fun σ4 => f_X4_noteCase_j26 σ4)
set_option maxHeartbeats 4000000 in
set_option maxRecDepth 20000 in
theorem L_X4_noteCase_j25 {G : xG} {π : Nat → Nat} {d C Z : Nat} {Q : xQ} (σ : xM) (s0 : Int32) (s1 : Int32) (s2 : Nat) {x : xM} (hf : f_X4_noteCase_j25 σ s0 s1 s2 = some x) (hR : ∀ g, x = g → Q (.inl none) (g) π) : xMach G π J_X4_noteCase (d + 0) C Z 25 [] [.int s0, .int s1, .ref s2] σ Q := by
  unfold f_X4_noteCase_j25 at hf
  refine xb_iast dX4_noteCase_25 hf (fun σ4 eσ4 hf => ?_)
  exact xm_sub [] rfl (L_X4_noteCase_j26 σ4 hf hR)
def f_X4_noteCase (σ : xM) (l0 : Nat) (l1 : Int32) (l2 : Int32) (l3 : Int32) : Option xM :=
  (if l3 = (0 : Int32) then f_X4_noteCase_j26 σ else (gR σ l0 4 11).bind (fun x1 => (gR σ l0 4 11).bind (fun x2 => (aI σ x2 14 l1).bind (fun x3 => (if x3 = (-1 : Int32) then f_X4_noteCase_j25 σ l2 l1 x1 else f_X4_noteCase_j25 σ (-2 : Int32) l1 x1)))))
set_option maxHeartbeats 4000000 in
set_option maxRecDepth 20000 in
theorem m_X4_noteCase {G : xG} {π : Nat → Nat} {d C Z : Nat} {Q : xQ} {σ : xM} {l0 : Nat} {l1 : Int32} {l2 : Int32} {l3 : Int32} {x : xM} (hf : f_X4_noteCase σ l0 l1 l2 l3 = some x) (hR : ∀ g, x = g → Q (.inl none) (g) π) : xMach G π J_X4_noteCase (d + 0) C Z 0 (lv_args 0 [.ref l0, .int l1, .int l2, .int l3]) [] σ Q := by
  unfold f_X4_noteCase at hf
  refine xm_stL (L' := [(0, .ref l0), (1, .int l1), (2, .int l2), (3, .int l3)]) rfl ?_
  refine xm_iload_n dX4_noteCase_0 rfl ?_
  refine xb_if_eq 26 dX4_noteCase_1 (by decide) hf (fun c hf => ?_) (fun c hf => ?_)
  · exact xm_sub [] rfl (L_X4_noteCase_j26 σ hf hR)
  · refine xm_aload_n dX4_noteCase_4 rfl ?_
    refine xb_getR (a := l0) (c := 4) (k := 11) dX4_noteCase_5 xcl4 (by decide) xw_432 rfl hf (fun x1 ex1 hf => ?_)
    refine xm_iload_n dX4_noteCase_8 rfl ?_
    refine xm_aload_n dX4_noteCase_9 rfl ?_
    refine xb_getR (a := l0) (c := 4) (k := 11) dX4_noteCase_10 xcl4 (by decide) xw_432 rfl hf (fun x2 ex2 hf => ?_)
    refine xm_iload_n dX4_noteCase_13 rfl ?_
    refine xb_iald dX4_noteCase_14 hf (fun x3 ex3 hf => ?_)
    refine xm_iconst dX4_noteCase_15 (v := -1) (by decide) ?_
    refine xb_icmp_ne 23 dX4_noteCase_16 (by decide) hf (fun c hf => ?_) (fun c hf => ?_)
    · refine xm_bipush dX4_noteCase_23 (v := -2) (by decide) ?_
      exact xm_sub [] rfl (L_X4_noteCase_j25 σ (-2 : Int32) l1 x1 hf hR)
    · refine xm_iload_n dX4_noteCase_19 rfl ?_
      refine xm_goto 25 dX4_noteCase_20 (by decide) ?_
      exact xm_sub [] rfl (L_X4_noteCase_j25 σ l2 l1 x1 hf hR)
-- Rankwise$Machine.advanceCall(II)I
def f_X4_advanceCall_j120 (σ : xM)  : Option (Int32 × xM) :=
  some ((0 : Int32), σ)
set_option maxHeartbeats 4000000 in
set_option maxRecDepth 20000 in
theorem L_X4_advanceCall_j120 {G : xG} {π : Nat → Nat} {d C Z : Nat} {Q : xQ} (σ : xM)  {x : (Int32 × xM)} (hf : f_X4_advanceCall_j120 σ = some x) (hR : ∀ g, x = g → Q (.inl (some (.int g.1))) (g.2) π) : xMach G π J_X4_advanceCall (d + 4) C Z 120 [] [] σ Q := by
  unfold f_X4_advanceCall_j120 at hf
  refine xm_iconst dX4_advanceCall_120 (v := 0) (by decide) ?_
  cases hf
  exact xm_iret dX4_advanceCall_121 rfl (hR _ rfl)
def f_X4_advanceCall_j117 (σ : xM) (s0 : Int32) (s1 : Int32) (s2 : Int32) (s3 : Nat) : Option (Int32 × xM) :=
  (if xk σ s3 4 = true then (f_X4_noteCase σ s3 s2 s1 s0).bind (fun p26 => f_X4_advanceCall_j120 p26) else none)
set_option maxHeartbeats 4000000 in
set_option maxRecDepth 20000 in
theorem L_X4_advanceCall_j117 {G : xG} {π : Nat → Nat} {d C Z : Nat} {Q : xQ} (σ : xM) (s0 : Int32) (s1 : Int32) (s2 : Int32) (s3 : Nat) {x : (Int32 × xM)} (hf : f_X4_advanceCall_j117 σ s0 s1 s2 s3 = some x) (hR : ∀ g, x = g → Q (.inl (some (.int g.1))) (g.2) π) : xMach G π J_X4_advanceCall (d + 4) C Z 117 [] [.int s0, .int s1, .int s2, .ref s3] σ Q := by
  unfold f_X4_advanceCall_j117 at hf
  refine xb_if hf (fun hb hf => ?_) (fun _ q => nomatch q)
  obtain ⟨p26, ep26, hf⟩ := xbind hf
  refine xb_callV (As := [.int s2, .int s1, .int s0]) (v0 := none) (τ0 := p26) dX4_advanceCall_117 (xc_X4_noteCase _ _) xcl4 xw_997 xw_999 xs_26 hb rfl (Nat.le_of_ble_eq_true rfl) rfl (Nat.le_of_ble_eq_true rfl) (fun Q1 hq => m_X4_noteCase (d := d + 3) ep26 (fun g hg => by subst hg; exact hq)) ?_
  exact xm_sub [] rfl (L_X4_advanceCall_j120 p26 hf hR)
def f_X4_advanceCall_j68 (σ : xM) (s0 : Int32) : Option (Int32 × xM) :=
  some (s0, σ)
set_option maxHeartbeats 4000000 in
set_option maxRecDepth 20000 in
theorem L_X4_advanceCall_j68 {G : xG} {π : Nat → Nat} {d C Z : Nat} {Q : xQ} (σ : xM) (s0 : Int32) {x : (Int32 × xM)} (hf : f_X4_advanceCall_j68 σ s0 = some x) (hR : ∀ g, x = g → Q (.inl (some (.int g.1))) (g.2) π) : xMach G π J_X4_advanceCall (d + 4) C Z 68 [] [.int s0] σ Q := by
  unfold f_X4_advanceCall_j68 at hf
  cases hf
  exact xm_iret dX4_advanceCall_68 rfl (hR _ rfl)
def f_X4_advanceCall (σ : xM) (l0 : Nat) (l1 : Int32) (l2 : Int32) : Option (Int32 × xM) :=
  (gR σ l0 4 9).bind (fun x1 => (aI σ x1 14 l1).bind (fun x2 => xlet (x2 / (2 : Int32)) (fun v3 => (gR σ l0 4 10).bind (fun x4 => (aI σ x4 14 l1).bind (fun x5 => (gR σ l0 4 9).bind (fun x6 => (aI σ x6 14 l1).bind (fun x7 => (wI σ x6 l1 (x7 + (1 : Int32))).bind (fun σ8 => (gR σ8 l0 4 0).bind (fun x9 => (if xk σ8 x9 1 = true then (f_X1_casesOf σ8 x9 l2).bind (fun p10 => (if v3 < p10 then (if (x2 - x2 / (2 : Int32) * (2 : Int32)) = (1 : Int32) then (gI σ8 l0 4 3).bind (fun x19 => (if x19 ≤ (0 : Int32) then f_X4_advanceCall_j120 σ8 else (gI σ8 l0 4 3).bind (fun x20 => (sI σ8 l0 4 3 (x20 - (1 : Int32))).bind (fun σ21 => (gR σ21 l0 4 2).bind (fun x22 => (gI σ21 l0 4 3).bind (fun x23 => ((aR σ21 x22 16 x23).bind id).bind (fun x24 => (if xk σ21 x24 2 = true then (f_X2_isZero σ21 x24).bind (fun p25 => (if p25 = (0 : Int32) then f_X4_advanceCall_j117 σ21 (1 : Int32) v3 l1 l0 else f_X4_advanceCall_j117 σ21 (0 : Int32) v3 l1 l0)) else none)))))))) else (gR σ8 l0 4 0).bind (fun x11 => (if xk σ8 x11 1 = true then (f_X1_conditionOf σ8 x11 l2 v3).bind (fun p12 => (Option.elim p12 ((if xk σ8 l0 4 = true then (f_X4_noteCase σ8 l0 l1 v3 (1 : Int32)).bind (fun p14 => (gR p14 l0 4 9).bind (fun x15 => (aI p14 x15 14 l1).bind (fun x16 => (wI p14 x15 l1 (x16 + (1 : Int32))).bind (fun σ17 => some ((0 : Int32), σ17))))) else none)) (fun a13 => (if xk σ8 l0 4 = true then (f_X4_begin σ8 l0 a13 (0 : Int32) x5).bind (fun p18 => some (p18.1, p18.2)) else none)))) else none))) else (if (x2 - x2 / (2 : Int32) * (2 : Int32)) = (1 : Int32) then (if xk σ8 l0 4 = true then (f_X4_closeCall σ8 l0 l1 x5).bind (fun p28 => f_X4_advanceCall_j68 p28.2 p28.1) else none) else (if xk σ8 l0 4 = true then (f_X4_beginValue σ8 l0 l1 l2 x5).bind (fun p27 => f_X4_advanceCall_j68 p27.2 p27.1) else none)))) else none))))))))))
set_option maxHeartbeats 4000000 in
set_option maxRecDepth 20000 in
theorem m_X4_advanceCall {G : xG} {π : Nat → Nat} {d C Z : Nat} {Q : xQ} {σ : xM} {l0 : Nat} {l1 : Int32} {l2 : Int32} {x : (Int32 × xM)} (hf : f_X4_advanceCall σ l0 l1 l2 = some x) (hR : ∀ g, x = g → Q (.inl (some (.int g.1))) (g.2) π) : xMach G π J_X4_advanceCall (d + 4) C Z 0 (lv_args 0 [.ref l0, .int l1, .int l2]) [] σ Q := by
  unfold f_X4_advanceCall at hf
  refine xm_stL (L' := [(0, .ref l0), (1, .int l1), (2, .int l2)]) rfl ?_
  refine xm_aload_n dX4_advanceCall_0 rfl ?_
  refine xb_getR (a := l0) (c := 4) (k := 9) dX4_advanceCall_1 xcl4 (by decide) xw_430 rfl hf (fun x1 ex1 hf => ?_)
  refine xm_iload_n dX4_advanceCall_4 rfl ?_
  refine xb_iald dX4_advanceCall_5 hf (fun x2 ex2 hf => ?_)
  refine xm_istore_n dX4_advanceCall_6 (by decide) (xm_stL (L' := [(3, .int x2), (0, .ref l0), (1, .int l1), (2, .int l2)]) rfl ?_)
  refine xm_iload_n dX4_advanceCall_7 rfl ?_
  refine xm_iconst dX4_advanceCall_8 (v := 2) (by decide) ?_
  refine xm_idiv dX4_advanceCall_9 (by decide) ?_
  refine xb_topi hf (fun v3 ev3 hf => ?_)
  refine xm_istore dX4_advanceCall_10 (by decide) (xm_stL (L' := [(4, .int v3), (3, .int x2), (0, .ref l0), (1, .int l1), (2, .int l2)]) rfl ?_)
  refine xm_aload_n dX4_advanceCall_12 rfl ?_
  refine xb_getR (a := l0) (c := 4) (k := 10) dX4_advanceCall_13 xcl4 (by decide) xw_431 rfl hf (fun x4 ex4 hf => ?_)
  refine xm_iload_n dX4_advanceCall_16 rfl ?_
  refine xb_iald dX4_advanceCall_17 hf (fun x5 ex5 hf => ?_)
  refine xm_istore dX4_advanceCall_18 (by decide) (xm_stL (L' := [(5, .int x5), (4, .int v3), (3, .int x2), (0, .ref l0), (1, .int l1), (2, .int l2)]) rfl ?_)
  refine xm_aload_n dX4_advanceCall_20 rfl ?_
  refine xb_getR (a := l0) (c := 4) (k := 9) dX4_advanceCall_21 xcl4 (by decide) xw_430 rfl hf (fun x6 ex6 hf => ?_)
  refine xm_iload_n dX4_advanceCall_24 rfl ?_
  refine xm_dup2 dX4_advanceCall_25 rfl rfl ?_
  refine xb_iald dX4_advanceCall_26 hf (fun x7 ex7 hf => ?_)
  refine xm_iconst dX4_advanceCall_27 (v := 1) (by decide) ?_
  refine xm_iadd dX4_advanceCall_28 ?_
  refine xb_iast dX4_advanceCall_29 hf (fun σ8 eσ8 hf => ?_)
  refine xm_iload dX4_advanceCall_30 rfl ?_
  refine xm_aload_n dX4_advanceCall_32 rfl ?_
  refine xb_getR (a := l0) (c := 4) (k := 0) dX4_advanceCall_33 xcl4 (by decide) xw_421 rfl hf (fun x9 ex9 hf => ?_)
  refine xm_iload_n dX4_advanceCall_36 rfl ?_
  refine xb_if hf (fun hb hf => ?_) (fun _ q => nomatch q)
  obtain ⟨p10, ep10, hf⟩ := xbind hf
  refine xb_callV (As := [.int l2]) (v0 := (some (.int p10))) (τ0 := σ8) dX4_advanceCall_37 (xc_X1_casesOf _ _) xcl1 xw_956 xw_957 xw_958 hb rfl (Nat.le_of_ble_eq_true rfl) rfl (Nat.le_of_ble_eq_true rfl) (fun Q1 hq => m_X1_casesOf (d := d + 3) ep10 (fun g hg => by subst hg; exact hq)) ?_
  refine xb_icmp_lt 69 dX4_advanceCall_40 (by decide) hf (fun c hf => ?_) (fun c hf => ?_)
  · refine xm_iload_n dX4_advanceCall_69 rfl ?_
    refine xm_iconst dX4_advanceCall_70 (v := 2) (by decide) ?_
    refine xm_irem dX4_advanceCall_71 (by decide) ?_
    refine xm_iconst dX4_advanceCall_72 (v := 1) (by decide) ?_
    refine xb_icmp_ne 122 dX4_advanceCall_73 (by decide) hf (fun c hf => ?_) (fun c hf => ?_)
    · refine xm_aload_n dX4_advanceCall_122 rfl ?_
      refine xb_getR (a := l0) (c := 4) (k := 0) dX4_advanceCall_123 xcl4 (by decide) xw_421 rfl hf (fun x11 ex11 hf => ?_)
      refine xm_iload_n dX4_advanceCall_126 rfl ?_
      refine xm_iload dX4_advanceCall_127 rfl ?_
      refine xb_if hf (fun hb hf => ?_) (fun _ q => nomatch q)
      obtain ⟨p12, ep12, hf⟩ := xbind hf
      refine xb_callV (As := [.int l2, .int v3]) (v0 := (some (va_rf p12))) (τ0 := σ8) dX4_advanceCall_129 (xc_X1_conditionOf _ _) xcl1 xw_1001 xw_1002 xw_1003 hb rfl (Nat.le_of_ble_eq_true rfl) rfl (Nat.le_of_ble_eq_true rfl) (fun Q1 hq => m_X1_conditionOf (d := d + 2) ep12 (fun g hg => by subst hg; exact hq)) ?_
      refine xm_astoreQ (t := p12) dX4_advanceCall_132 (by decide) (xm_stL (L' := [(6, va_rf p12), (5, .int x5), (4, .int v3), (3, .int x2), (0, .ref l0), (1, .int l1), (2, .int l2)]) (by cases p12 <;> rfl) ?_)
      refine xm_aloadQ dX4_advanceCall_134 rfl ?_
      refine xb_ifnonnullQ 159 dX4_advanceCall_136 (by decide) hf (fun c hf => ?_) (fun a13 c hf => ?_)
      · subst c
        refine xm_aload_n dX4_advanceCall_139 rfl ?_
        refine xm_iload_n dX4_advanceCall_140 rfl ?_
        refine xm_iload dX4_advanceCall_141 rfl ?_
        refine xm_iconst dX4_advanceCall_143 (v := 1) (by decide) ?_
        refine xb_if hf (fun hb hf => ?_) (fun _ q => nomatch q)
        obtain ⟨p14, ep14, hf⟩ := xbind hf
        refine xb_callV (As := [.int l1, .int v3, .int (1 : Int32)]) (v0 := none) (τ0 := p14) dX4_advanceCall_144 (xc_X4_noteCase _ _) xcl4 xw_997 xw_999 xs_26 hb rfl (Nat.le_of_ble_eq_true rfl) rfl (Nat.le_of_ble_eq_true rfl) (fun Q1 hq => m_X4_noteCase (d := d + 3) ep14 (fun g hg => by subst hg; exact hq)) ?_
        refine xm_aload_n dX4_advanceCall_147 rfl ?_
        refine xb_getR (a := l0) (c := 4) (k := 9) dX4_advanceCall_148 xcl4 (by decide) xw_430 rfl hf (fun x15 ex15 hf => ?_)
        refine xm_iload_n dX4_advanceCall_151 rfl ?_
        refine xm_dup2 dX4_advanceCall_152 rfl rfl ?_
        refine xb_iald dX4_advanceCall_153 hf (fun x16 ex16 hf => ?_)
        refine xm_iconst dX4_advanceCall_154 (v := 1) (by decide) ?_
        refine xm_iadd dX4_advanceCall_155 ?_
        refine xb_iast dX4_advanceCall_156 hf (fun σ17 eσ17 hf => ?_)
        refine xm_iconst dX4_advanceCall_157 (v := 0) (by decide) ?_
        cases hf
        exact xm_iret dX4_advanceCall_158 rfl (hR _ rfl)
      · subst c
        refine xm_aload_n dX4_advanceCall_159 rfl ?_
        refine xm_aload dX4_advanceCall_160 rfl ?_
        refine xm_iconst dX4_advanceCall_162 (v := 0) (by decide) ?_
        refine xm_iload dX4_advanceCall_163 rfl ?_
        refine xb_if hf (fun hb hf => ?_) (fun _ q => nomatch q)
        obtain ⟨p18, ep18, hf⟩ := xbind hf
        refine xb_callV (As := [.ref a13, .int (0 : Int32), .int x5]) (v0 := (some (.int p18.1))) (τ0 := p18.2) dX4_advanceCall_165 (xc_X4_begin _ _) xcl4 xw_935 xw_937 xs_20 hb rfl (Nat.le_of_ble_eq_true rfl) rfl (Nat.le_of_ble_eq_true rfl) (fun Q1 hq => m_X4_begin (d := d + 2) ep18 (fun g hg => by subst hg; exact hq)) ?_
        cases hf
        exact xm_iret dX4_advanceCall_168 rfl (hR _ rfl)
    · refine xm_aload_n dX4_advanceCall_76 rfl ?_
      refine xb_getI (a := l0) (c := 4) (k := 3) dX4_advanceCall_77 xcl4 (by decide) xw_424 rfl hf (fun x19 ex19 hf => ?_)
      refine xb_if_le 120 dX4_advanceCall_80 (by decide) hf (fun c hf => ?_) (fun c hf => ?_)
      · exact xm_sub [] rfl (L_X4_advanceCall_j120 σ8 hf hR)
      · refine xm_aload_n dX4_advanceCall_83 rfl ?_
        refine xm_dup dX4_advanceCall_84 rfl ?_
        refine xb_getI (a := l0) (c := 4) (k := 3) dX4_advanceCall_85 xcl4 (by decide) xw_424 rfl hf (fun x20 ex20 hf => ?_)
        refine xm_iconst dX4_advanceCall_88 (v := 1) (by decide) ?_
        refine xm_isub dX4_advanceCall_89 ?_
        refine xb_putI (a := l0) (c := 4) (k := 3) dX4_advanceCall_90 xcl4 (by decide) xw_424 rfl rfl hf (fun σ21 eσ21 hf => ?_)
        refine xm_aload_n dX4_advanceCall_93 rfl ?_
        refine xm_iload_n dX4_advanceCall_94 rfl ?_
        refine xm_iload dX4_advanceCall_95 rfl ?_
        refine xm_aload_n dX4_advanceCall_97 rfl ?_
        refine xb_getR (a := l0) (c := 4) (k := 2) dX4_advanceCall_98 xcl4 (by decide) xw_423 rfl hf (fun x22 ex22 hf => ?_)
        refine xm_aload_n dX4_advanceCall_101 rfl ?_
        refine xb_getI (a := l0) (c := 4) (k := 3) dX4_advanceCall_102 xcl4 (by decide) xw_424 rfl hf (fun x23 ex23 hf => ?_)
        refine xb_aaldS dX4_advanceCall_105 (by decide) hf (fun x24 ex24 hf => ?_)
        refine xb_if hf (fun hb hf => ?_) (fun _ q => nomatch q)
        obtain ⟨p25, ep25, hf⟩ := xbind hf
        refine xb_callV (As := []) (v0 := (some (.int p25))) (τ0 := σ21) dX4_advanceCall_106 (xc_X2_isZero _ _) xcl2 xw_989 xw_990 xw_991 hb rfl (Nat.le_of_ble_eq_true rfl) rfl (Nat.le_of_ble_eq_true rfl) (fun Q1 hq => m_X2_isZero (d := d + 2) ep25 (fun g hg => by subst hg; exact hq)) ?_
        refine xb_if_ne 116 dX4_advanceCall_109 (by decide) hf (fun c hf => ?_) (fun c hf => ?_)
        · refine xm_iconst dX4_advanceCall_116 (v := 0) (by decide) ?_
          exact xm_sub [] rfl (L_X4_advanceCall_j117 σ21 (0 : Int32) v3 l1 l0 hf hR)
        · refine xm_iconst dX4_advanceCall_112 (v := 1) (by decide) ?_
          refine xm_goto 117 dX4_advanceCall_113 (by decide) ?_
          exact xm_sub [] rfl (L_X4_advanceCall_j117 σ21 (1 : Int32) v3 l1 l0 hf hR)
  · refine xm_iload_n dX4_advanceCall_43 rfl ?_
    refine xm_iconst dX4_advanceCall_44 (v := 2) (by decide) ?_
    refine xm_irem dX4_advanceCall_45 (by decide) ?_
    refine xm_iconst dX4_advanceCall_46 (v := 1) (by decide) ?_
    refine xb_icmp_ne 60 dX4_advanceCall_47 (by decide) hf (fun c hf => ?_) (fun c hf => ?_)
    · refine xm_aload_n dX4_advanceCall_60 rfl ?_
      refine xm_iload_n dX4_advanceCall_61 rfl ?_
      refine xm_iload_n dX4_advanceCall_62 rfl ?_
      refine xm_iload dX4_advanceCall_63 rfl ?_
      refine xb_if hf (fun hb hf => ?_) (fun _ q => nomatch q)
      obtain ⟨p27, ep27, hf⟩ := xbind hf
      refine xb_callV (As := [.int l1, .int l2, .int x5]) (v0 := (some (.int p27.1))) (τ0 := p27.2) dX4_advanceCall_65 (xc_X4_beginValue _ _) xcl4 xw_976 xw_978 xs_24 hb rfl (Nat.le_of_ble_eq_true rfl) rfl (Nat.le_of_ble_eq_true rfl) (fun Q1 hq => m_X4_beginValue (d := d + 1) ep27 (fun g hg => by subst hg; exact hq)) ?_
      exact xm_sub [] rfl (L_X4_advanceCall_j68 p27.2 p27.1 hf hR)
    · refine xm_aload_n dX4_advanceCall_50 rfl ?_
      refine xm_iload_n dX4_advanceCall_51 rfl ?_
      refine xm_iload dX4_advanceCall_52 rfl ?_
      refine xb_if hf (fun hb hf => ?_) (fun _ q => nomatch q)
      obtain ⟨p28, ep28, hf⟩ := xbind hf
      refine xb_callV (As := [.int l1, .int x5]) (v0 := (some (.int p28.1))) (τ0 := p28.2) dX4_advanceCall_54 (xc_X4_closeCall _ _) xcl4 xw_960 xw_962 xs_23 hb rfl (Nat.le_of_ble_eq_true rfl) rfl (Nat.le_of_ble_eq_true rfl) (fun Q1 hq => m_X4_closeCall (d := d + 0) ep28 (fun g hg => by subst hg; exact hq)) ?_
      refine xm_goto 68 dX4_advanceCall_57 (by decide) ?_
      exact xm_sub [] rfl (L_X4_advanceCall_j68 p28.2 p28.1 hf hR)
-- Rankwise$Machine.countNode()I
def f_X4_countNode (σ : xM) (l0 : Nat) : Option (Int32 × xM) :=
  (gI σ l0 4 4).bind (fun x1 => (if x1 < (200 : Int32) then (gI σ l0 4 4).bind (fun x2 => (sI σ l0 4 4 (x2 + (1 : Int32))).bind (fun σ3 => some ((0 : Int32), σ3))) else some ((9 : Int32), σ)))
set_option maxHeartbeats 4000000 in
set_option maxRecDepth 20000 in
theorem m_X4_countNode {G : xG} {π : Nat → Nat} {d C Z : Nat} {Q : xQ} {σ : xM} {l0 : Nat} {x : (Int32 × xM)} (hf : f_X4_countNode σ l0 = some x) (hR : ∀ g, x = g → Q (.inl (some (.int g.1))) (g.2) π) : xMach G π J_X4_countNode (d + 0) C Z 0 (lv_args 0 [.ref l0]) [] σ Q := by
  unfold f_X4_countNode at hf
  refine xm_stL (L' := [(0, .ref l0)]) rfl ?_
  refine xm_aload_n dX4_countNode_0 rfl ?_
  refine xb_getI (a := l0) (c := 4) (k := 4) dX4_countNode_1 xcl4 (by decide) xw_425 rfl hf (fun x1 ex1 hf => ?_)
  refine xm_sipush dX4_countNode_4 (v := 200) (by decide) ?_
  refine xb_icmp_lt 13 dX4_countNode_7 (by decide) hf (fun c hf => ?_) (fun c hf => ?_)
  · refine xm_aload_n dX4_countNode_13 rfl ?_
    refine xm_dup dX4_countNode_14 rfl ?_
    refine xb_getI (a := l0) (c := 4) (k := 4) dX4_countNode_15 xcl4 (by decide) xw_425 rfl hf (fun x2 ex2 hf => ?_)
    refine xm_iconst dX4_countNode_18 (v := 1) (by decide) ?_
    refine xm_iadd dX4_countNode_19 ?_
    refine xb_putI (a := l0) (c := 4) (k := 4) dX4_countNode_20 xcl4 (by decide) xw_425 rfl rfl hf (fun σ3 eσ3 hf => ?_)
    refine xm_iconst dX4_countNode_23 (v := 0) (by decide) ?_
    cases hf
    exact xm_iret dX4_countNode_24 rfl (hR _ rfl)
  · refine xm_bipush dX4_countNode_10 (v := 9) (by decide) ?_
    cases hf
    exact xm_iret dX4_countNode_12 rfl (hR _ rfl)
-- Rankwise$Machine.nextOperand(ILRankwise$Tree;I)I
def f_X4_nextOperand (σ : xM) (l0 : Nat) (l1 : Int32) (l2 : Nat) (l3 : Int32) : Option (Int32 × xM) :=
  (gR σ l0 4 9).bind (fun x1 => (aI σ x1 14 l1).bind (fun x2 => (if xk σ l2 9 = true then (f_X9_child σ l2 l3 x2).bind (fun p3 => (gR σ l0 4 9).bind (fun x4 => (aI σ x4 14 l1).bind (fun x5 => (wI σ x4 l1 (x5 + (1 : Int32))).bind (fun σ6 => (gR σ6 l0 4 10).bind (fun x7 => (aI σ6 x7 14 l1).bind (fun x8 => (if xk σ6 l0 4 = true then (f_X4_begin σ6 l0 l2 p3 x8).bind (fun p9 => some (p9.1, p9.2)) else none))))))) else none)))
set_option maxHeartbeats 4000000 in
set_option maxRecDepth 20000 in
theorem m_X4_nextOperand {G : xG} {π : Nat → Nat} {d C Z : Nat} {Q : xQ} {σ : xM} {l0 : Nat} {l1 : Int32} {l2 : Nat} {l3 : Int32} {x : (Int32 × xM)} (hf : f_X4_nextOperand σ l0 l1 l2 l3 = some x) (hR : ∀ g, x = g → Q (.inl (some (.int g.1))) (g.2) π) : xMach G π J_X4_nextOperand (d + 2) C Z 0 (lv_args 0 [.ref l0, .int l1, .ref l2, .int l3]) [] σ Q := by
  unfold f_X4_nextOperand at hf
  refine xm_stL (L' := [(0, .ref l0), (1, .int l1), (2, .ref l2), (3, .int l3)]) rfl ?_
  refine xm_aload_n dX4_nextOperand_0 rfl ?_
  refine xm_iload_n dX4_nextOperand_1 rfl ?_
  refine xm_aload_n dX4_nextOperand_2 rfl ?_
  refine xb_getR (a := l0) (c := 4) (k := 9) dX4_nextOperand_3 xcl4 (by decide) xw_430 rfl hf (fun x1 ex1 hf => ?_)
  refine xm_iload_n dX4_nextOperand_6 rfl ?_
  refine xb_iald dX4_nextOperand_7 hf (fun x2 ex2 hf => ?_)
  refine xb_if hf (fun hb hf => ?_) (fun _ q => nomatch q)
  obtain ⟨p3, ep3, hf⟩ := xbind hf
  refine xb_callV (As := [.int l3, .int x2]) (v0 := (some (.int p3))) (τ0 := σ) dX4_nextOperand_8 (xc_X9_child _ _) xcl9 xw_1017 xw_1018 xw_1019 hb rfl (Nat.le_of_ble_eq_true rfl) rfl (Nat.le_of_ble_eq_true rfl) (fun Q1 hq => m_X9_child (d := d + 0) ep3 (fun g hg => by subst hg; exact hq)) ?_
  refine xm_istore dX4_nextOperand_11 (by decide) (xm_stL (L' := [(4, .int p3), (0, .ref l0), (1, .int l1), (2, .ref l2), (3, .int l3)]) rfl ?_)
  refine xm_aload_n dX4_nextOperand_13 rfl ?_
  refine xb_getR (a := l0) (c := 4) (k := 9) dX4_nextOperand_14 xcl4 (by decide) xw_430 rfl hf (fun x4 ex4 hf => ?_)
  refine xm_iload_n dX4_nextOperand_17 rfl ?_
  refine xm_dup2 dX4_nextOperand_18 rfl rfl ?_
  refine xb_iald dX4_nextOperand_19 hf (fun x5 ex5 hf => ?_)
  refine xm_iconst dX4_nextOperand_20 (v := 1) (by decide) ?_
  refine xm_iadd dX4_nextOperand_21 ?_
  refine xb_iast dX4_nextOperand_22 hf (fun σ6 eσ6 hf => ?_)
  refine xm_aload_n dX4_nextOperand_23 rfl ?_
  refine xm_aload_n dX4_nextOperand_24 rfl ?_
  refine xm_iload dX4_nextOperand_25 rfl ?_
  refine xm_aload_n dX4_nextOperand_27 rfl ?_
  refine xb_getR (a := l0) (c := 4) (k := 10) dX4_nextOperand_28 xcl4 (by decide) xw_431 rfl hf (fun x7 ex7 hf => ?_)
  refine xm_iload_n dX4_nextOperand_31 rfl ?_
  refine xb_iald dX4_nextOperand_32 hf (fun x8 ex8 hf => ?_)
  refine xb_if hf (fun hb hf => ?_) (fun _ q => nomatch q)
  obtain ⟨p9, ep9, hf⟩ := xbind hf
  refine xb_callV (As := [.ref l2, .int p3, .int x8]) (v0 := (some (.int p9.1))) (τ0 := p9.2) dX4_nextOperand_33 (xc_X4_begin _ _) xcl4 xw_935 xw_937 xs_20 hb rfl (Nat.le_of_ble_eq_true rfl) rfl (Nat.le_of_ble_eq_true rfl) (fun Q1 hq => m_X4_begin (d := d + 0) ep9 (fun g hg => by subst hg; exact hq)) ?_
  cases hf
  exact xm_iret dX4_nextOperand_36 rfl (hR _ rfl)
-- Rankwise$Machine.advanceChoice(ILRankwise$Tree;I)I
def f_X4_advanceChoice_j121 (σ : xM) (l0 : Nat) (l1 : Int32) : Option (Int32 × xM) :=
  (sI σ l0 4 12 l1).bind (fun σ3 => some ((0 : Int32), σ3))
set_option maxHeartbeats 4000000 in
set_option maxRecDepth 20000 in
theorem L_X4_advanceChoice_j121 {G : xG} {π : Nat → Nat} {d C Z : Nat} {Q : xQ} (σ : xM) (l0 : Nat) (l1 : Int32) {x : (Int32 × xM)} (hf : f_X4_advanceChoice_j121 σ l0 l1 = some x) (hR : ∀ g, x = g → Q (.inl (some (.int g.1))) (g.2) π) : xMach G π J_X4_advanceChoice (d + 3) C Z 121 [(0, .ref l0), (1, .int l1)] [] σ Q := by
  unfold f_X4_advanceChoice_j121 at hf
  refine xm_aload_n dX4_advanceChoice_121 rfl ?_
  refine xm_iload_n dX4_advanceChoice_122 rfl ?_
  refine xb_putI (a := l0) (c := 4) (k := 12) dX4_advanceChoice_123 xcl4 (by decide) xw_433 rfl rfl hf (fun σ3 eσ3 hf => ?_)
  refine xm_iconst dX4_advanceChoice_126 (v := 0) (by decide) ?_
  cases hf
  exact xm_iret dX4_advanceChoice_127 rfl (hR _ rfl)
def f_X4_advanceChoice_j108 (σ : xM) (l0 : Nat) (l1 : Int32) (s0 : Int32) (s1 : Int32) (s2 : Nat) (s3 : Nat) (s4 : Nat) : Option (Int32 × xM) :=
  (if xk σ s2 9 = true then (f_X9_child σ s2 s1 s0).bind (fun p13 => (gR σ l0 4 10).bind (fun x14 => (aI σ x14 14 l1).bind (fun x15 => (if xk σ s4 4 = true then (f_X4_begin σ s4 s3 p13 x15).bind (fun p16 => some (p16.1, p16.2)) else none)))) else none)
set_option maxHeartbeats 4000000 in
set_option maxRecDepth 20000 in
theorem L_X4_advanceChoice_j108 {G : xG} {π : Nat → Nat} {d C Z : Nat} {Q : xQ} (σ : xM) (l0 : Nat) (l1 : Int32) (s0 : Int32) (s1 : Int32) (s2 : Nat) (s3 : Nat) (s4 : Nat) {x : (Int32 × xM)} (hf : f_X4_advanceChoice_j108 σ l0 l1 s0 s1 s2 s3 s4 = some x) (hR : ∀ g, x = g → Q (.inl (some (.int g.1))) (g.2) π) : xMach G π J_X4_advanceChoice (d + 3) C Z 108 [(0, .ref l0), (1, .int l1)] [.int s0, .int s1, .ref s2, .ref s3, .ref s4] σ Q := by
  unfold f_X4_advanceChoice_j108 at hf
  refine xb_if hf (fun hb hf => ?_) (fun _ q => nomatch q)
  obtain ⟨p13, ep13, hf⟩ := xbind hf
  refine xb_callV (As := [.int s1, .int s0]) (v0 := (some (.int p13))) (τ0 := σ) dX4_advanceChoice_108 (xc_X9_child _ _) xcl9 xw_1017 xw_1018 xw_1019 hb rfl (Nat.le_of_ble_eq_true rfl) rfl (Nat.le_of_ble_eq_true rfl) (fun Q1 hq => m_X9_child (d := d + 1) ep13 (fun g hg => by subst hg; exact hq)) ?_
  refine xm_aload_n dX4_advanceChoice_111 rfl ?_
  refine xb_getR (a := l0) (c := 4) (k := 10) dX4_advanceChoice_112 xcl4 (by decide) xw_431 rfl hf (fun x14 ex14 hf => ?_)
  refine xm_iload_n dX4_advanceChoice_115 rfl ?_
  refine xb_iald dX4_advanceChoice_116 hf (fun x15 ex15 hf => ?_)
  refine xb_if hf (fun hb hf => ?_) (fun _ q => nomatch q)
  obtain ⟨p16, ep16, hf⟩ := xbind hf
  refine xb_callV (As := [.ref s3, .int p13, .int x15]) (v0 := (some (.int p16.1))) (τ0 := p16.2) dX4_advanceChoice_117 (xc_X4_begin _ _) xcl4 xw_935 xw_937 xs_20 hb rfl (Nat.le_of_ble_eq_true rfl) rfl (Nat.le_of_ble_eq_true rfl) (fun Q1 hq => m_X4_begin (d := d + 1) ep16 (fun g hg => by subst hg; exact hq)) ?_
  cases hf
  exact xm_iret dX4_advanceChoice_120 rfl (hR _ rfl)
def f_X4_advanceChoice_j45 (σ : xM) (s0 : Int32) : Option (Int32 × xM) :=
  some (s0, σ)
set_option maxHeartbeats 4000000 in
set_option maxRecDepth 20000 in
theorem L_X4_advanceChoice_j45 {G : xG} {π : Nat → Nat} {d C Z : Nat} {Q : xQ} (σ : xM) (s0 : Int32) {x : (Int32 × xM)} (hf : f_X4_advanceChoice_j45 σ s0 = some x) (hR : ∀ g, x = g → Q (.inl (some (.int g.1))) (g.2) π) : xMach G π J_X4_advanceChoice (d + 3) C Z 45 [] [.int s0] σ Q := by
  unfold f_X4_advanceChoice_j45 at hf
  cases hf
  exact xm_iret dX4_advanceChoice_45 rfl (hR _ rfl)
def f_X4_advanceChoice_j34 (σ : xM) (l5 : Int32) : Option (Int32 × xM) :=
  (if l5 = (0 : Int32) then f_X4_advanceChoice_j45 σ (5 : Int32) else f_X4_advanceChoice_j45 σ l5)
set_option maxHeartbeats 4000000 in
set_option maxRecDepth 20000 in
theorem L_X4_advanceChoice_j34 {G : xG} {π : Nat → Nat} {d C Z : Nat} {Q : xQ} (σ : xM) (l5 : Int32) {x : (Int32 × xM)} (hf : f_X4_advanceChoice_j34 σ l5 = some x) (hR : ∀ g, x = g → Q (.inl (some (.int g.1))) (g.2) π) : xMach G π J_X4_advanceChoice (d + 3) C Z 34 [(5, .int l5)] [] σ Q := by
  unfold f_X4_advanceChoice_j34 at hf
  refine xm_iload dX4_advanceChoice_34 rfl ?_
  refine xb_if_eq 44 dX4_advanceChoice_36 (by decide) hf (fun c hf => ?_) (fun c hf => ?_)
  · refine xm_iconst dX4_advanceChoice_44 (v := 5) (by decide) ?_
    exact xm_sub [] rfl (L_X4_advanceChoice_j45 σ (5 : Int32) hf hR)
  · refine xm_iload dX4_advanceChoice_39 rfl ?_
    refine xm_goto 45 dX4_advanceChoice_41 (by decide) ?_
    exact xm_sub [] rfl (L_X4_advanceChoice_j45 σ l5 hf hR)
def f_X4_advanceChoice (σ : xM) (l0 : Nat) (l1 : Int32) (l2 : Nat) (l3 : Int32) : Option (Int32 × xM) :=
  (gR σ l0 4 9).bind (fun x1 => (aI σ x1 14 l1).bind (fun x2 => (if x2 = (0 : Int32) then (if xk σ l0 4 = true then (f_X4_countNode σ l0).bind (fun p17 => (if p17.1 = (0 : Int32) then (gR p17.2 l2 9 3).bind (fun x18 => (aI p17.2 x18 14 l3).bind (fun x19 => (if x19 = (3 : Int32) then (if xk p17.2 l0 4 = true then (f_X4_nextOperand p17.2 l0 l1 l2 l3).bind (fun p20 => some (p20.1, p20.2)) else none) else f_X4_advanceChoice_j34 p17.2 p17.1))) else f_X4_advanceChoice_j34 p17.2 p17.1)) else none) else (if x2 = (1 : Int32) then (gI σ l0 4 3).bind (fun x4 => (if x4 ≤ (0 : Int32) then f_X4_advanceChoice_j121 σ l0 l1 else (gI σ l0 4 3).bind (fun x5 => (sI σ l0 4 3 (x5 - (1 : Int32))).bind (fun σ6 => (gR σ6 l0 4 9).bind (fun x7 => (wI σ6 x7 l1 (2 : Int32)).bind (fun σ8 => (gR σ8 l0 4 2).bind (fun x9 => (gI σ8 l0 4 3).bind (fun x10 => ((aR σ8 x9 16 x10).bind id).bind (fun x11 => (if xk σ8 x11 2 = true then (f_X2_isZero σ8 x11).bind (fun p12 => (if p12 = (0 : Int32) then f_X4_advanceChoice_j108 σ8 l0 l1 (1 : Int32) l3 l2 l2 l0 else f_X4_advanceChoice_j108 σ8 l0 l1 (2 : Int32) l3 l2 l2 l0)) else none)))))))))) else f_X4_advanceChoice_j121 σ l0 l1))))
set_option maxHeartbeats 4000000 in
set_option maxRecDepth 20000 in
theorem m_X4_advanceChoice {G : xG} {π : Nat → Nat} {d C Z : Nat} {Q : xQ} {σ : xM} {l0 : Nat} {l1 : Int32} {l2 : Nat} {l3 : Int32} {x : (Int32 × xM)} (hf : f_X4_advanceChoice σ l0 l1 l2 l3 = some x) (hR : ∀ g, x = g → Q (.inl (some (.int g.1))) (g.2) π) : xMach G π J_X4_advanceChoice (d + 3) C Z 0 (lv_args 0 [.ref l0, .int l1, .ref l2, .int l3]) [] σ Q := by
  unfold f_X4_advanceChoice at hf
  refine xm_stL (L' := [(0, .ref l0), (1, .int l1), (2, .ref l2), (3, .int l3)]) rfl ?_
  refine xm_aload_n dX4_advanceChoice_0 rfl ?_
  refine xb_getR (a := l0) (c := 4) (k := 9) dX4_advanceChoice_1 xcl4 (by decide) xw_430 rfl hf (fun x1 ex1 hf => ?_)
  refine xm_iload_n dX4_advanceChoice_4 rfl ?_
  refine xb_iald dX4_advanceChoice_5 hf (fun x2 ex2 hf => ?_)
  refine xm_istore dX4_advanceChoice_6 (by decide) (xm_stL (L' := [(4, .int x2), (0, .ref l0), (1, .int l1), (2, .ref l2), (3, .int l3)]) rfl ?_)
  refine xm_iload dX4_advanceChoice_8 rfl ?_
  refine xb_if_ne 54 dX4_advanceChoice_10 (by decide) hf (fun c hf => ?_) (fun c hf => ?_)
  · refine xm_iload dX4_advanceChoice_54 rfl ?_
    refine xm_iconst dX4_advanceChoice_56 (v := 1) (by decide) ?_
    refine xb_icmp_ne 121 dX4_advanceChoice_57 (by decide) hf (fun c hf => ?_) (fun c hf => ?_)
    · exact xm_sub [1, 2] rfl (L_X4_advanceChoice_j121 σ l0 l1 hf hR)
    · refine xm_aload_n dX4_advanceChoice_60 rfl ?_
      refine xb_getI (a := l0) (c := 4) (k := 3) dX4_advanceChoice_61 xcl4 (by decide) xw_424 rfl hf (fun x4 ex4 hf => ?_)
      refine xb_if_le 121 dX4_advanceChoice_64 (by decide) hf (fun c hf => ?_) (fun c hf => ?_)
      · exact xm_sub [1, 2] rfl (L_X4_advanceChoice_j121 σ l0 l1 hf hR)
      · refine xm_aload_n dX4_advanceChoice_67 rfl ?_
        refine xm_dup dX4_advanceChoice_68 rfl ?_
        refine xb_getI (a := l0) (c := 4) (k := 3) dX4_advanceChoice_69 xcl4 (by decide) xw_424 rfl hf (fun x5 ex5 hf => ?_)
        refine xm_iconst dX4_advanceChoice_72 (v := 1) (by decide) ?_
        refine xm_isub dX4_advanceChoice_73 ?_
        refine xb_putI (a := l0) (c := 4) (k := 3) dX4_advanceChoice_74 xcl4 (by decide) xw_424 rfl rfl hf (fun σ6 eσ6 hf => ?_)
        refine xm_aload_n dX4_advanceChoice_77 rfl ?_
        refine xb_getR (a := l0) (c := 4) (k := 9) dX4_advanceChoice_78 xcl4 (by decide) xw_430 rfl hf (fun x7 ex7 hf => ?_)
        refine xm_iload_n dX4_advanceChoice_81 rfl ?_
        refine xm_iconst dX4_advanceChoice_82 (v := 2) (by decide) ?_
        refine xb_iast dX4_advanceChoice_83 hf (fun σ8 eσ8 hf => ?_)
        refine xm_aload_n dX4_advanceChoice_84 rfl ?_
        refine xm_aload_n dX4_advanceChoice_85 rfl ?_
        refine xm_aload_n dX4_advanceChoice_86 rfl ?_
        refine xm_iload_n dX4_advanceChoice_87 rfl ?_
        refine xm_aload_n dX4_advanceChoice_88 rfl ?_
        refine xb_getR (a := l0) (c := 4) (k := 2) dX4_advanceChoice_89 xcl4 (by decide) xw_423 rfl hf (fun x9 ex9 hf => ?_)
        refine xm_aload_n dX4_advanceChoice_92 rfl ?_
        refine xb_getI (a := l0) (c := 4) (k := 3) dX4_advanceChoice_93 xcl4 (by decide) xw_424 rfl hf (fun x10 ex10 hf => ?_)
        refine xb_aaldS dX4_advanceChoice_96 (by decide) hf (fun x11 ex11 hf => ?_)
        refine xb_if hf (fun hb hf => ?_) (fun _ q => nomatch q)
        obtain ⟨p12, ep12, hf⟩ := xbind hf
        refine xb_callV (As := []) (v0 := (some (.int p12))) (τ0 := σ8) dX4_advanceChoice_97 (xc_X2_isZero _ _) xcl2 xw_989 xw_990 xw_991 hb rfl (Nat.le_of_ble_eq_true rfl) rfl (Nat.le_of_ble_eq_true rfl) (fun Q1 hq => m_X2_isZero (d := d + 1) ep12 (fun g hg => by subst hg; exact hq)) ?_
        refine xb_if_eq 107 dX4_advanceChoice_100 (by decide) hf (fun c hf => ?_) (fun c hf => ?_)
        · refine xm_iconst dX4_advanceChoice_107 (v := 1) (by decide) ?_
          exact xm_sub [1, 2] rfl (L_X4_advanceChoice_j108 σ8 l0 l1 (1 : Int32) l3 l2 l2 l0 hf hR)
        · refine xm_iconst dX4_advanceChoice_103 (v := 2) (by decide) ?_
          refine xm_goto 108 dX4_advanceChoice_104 (by decide) ?_
          exact xm_sub [1, 2] rfl (L_X4_advanceChoice_j108 σ8 l0 l1 (2 : Int32) l3 l2 l2 l0 hf hR)
  · refine xm_aload_n dX4_advanceChoice_13 rfl ?_
    refine xb_if hf (fun hb hf => ?_) (fun _ q => nomatch q)
    obtain ⟨p17, ep17, hf⟩ := xbind hf
    refine xb_callV (As := []) (v0 := (some (.int p17.1))) (τ0 := p17.2) dX4_advanceChoice_14 (xc_X4_countNode _ _) xcl4 xw_1009 xw_1011 xs_28 hb rfl (Nat.le_of_ble_eq_true rfl) rfl (Nat.le_of_ble_eq_true rfl) (fun Q1 hq => m_X4_countNode (d := d + 2) ep17 (fun g hg => by subst hg; exact hq)) ?_
    refine xm_istore dX4_advanceChoice_17 (by decide) (xm_stL (L' := [(5, .int p17.1), (4, .int x2), (0, .ref l0), (1, .int l1), (2, .ref l2), (3, .int l3)]) rfl ?_)
    refine xm_iload dX4_advanceChoice_19 rfl ?_
    refine xb_if_ne 34 dX4_advanceChoice_21 (by decide) hf (fun c hf => ?_) (fun c hf => ?_)
    · exact xm_sub [0] rfl (L_X4_advanceChoice_j34 p17.2 p17.1 hf hR)
    · refine xm_aload_n dX4_advanceChoice_24 rfl ?_
      refine xb_getR (a := l2) (c := 9) (k := 3) dX4_advanceChoice_25 xcl9 (by decide) xw_212 rfl hf (fun x18 ex18 hf => ?_)
      refine xm_iload_n dX4_advanceChoice_28 rfl ?_
      refine xb_iald dX4_advanceChoice_29 hf (fun x19 ex19 hf => ?_)
      refine xm_iconst dX4_advanceChoice_30 (v := 3) (by decide) ?_
      refine xb_icmp_eq 46 dX4_advanceChoice_31 (by decide) hf (fun c hf => ?_) (fun c hf => ?_)
      · refine xm_aload_n dX4_advanceChoice_46 rfl ?_
        refine xm_iload_n dX4_advanceChoice_47 rfl ?_
        refine xm_aload_n dX4_advanceChoice_48 rfl ?_
        refine xm_iload_n dX4_advanceChoice_49 rfl ?_
        refine xb_if hf (fun hb hf => ?_) (fun _ q => nomatch q)
        obtain ⟨p20, ep20, hf⟩ := xbind hf
        refine xb_callV (As := [.int l1, .ref l2, .int l3]) (v0 := (some (.int p20.1))) (τ0 := p20.2) dX4_advanceChoice_50 (xc_X4_nextOperand _ _) xcl4 xw_1013 xw_1015 xs_29 hb rfl (Nat.le_of_ble_eq_true rfl) rfl (Nat.le_of_ble_eq_true rfl) (fun Q1 hq => m_X4_nextOperand (d := d + 0) ep20 (fun g hg => by subst hg; exact hq)) ?_
        cases hf
        exact xm_iret dX4_advanceChoice_53 rfl (hR _ rfl)
      · exact xm_sub [0] rfl (L_X4_advanceChoice_j34 p17.2 p17.1 hf hR)
-- Rankwise$Machine.openScope(IIII)Z
def f_X4_openScope (σ : xM) (l0 : Nat) (l1 : Int32) (l2 : Int32) (l3 : Int32) (l4 : Int32) : Option (Int32 × xM) :=
  (gI σ l0 4 18).bind (fun x1 => (if x1 < (240 : Int32) then (gR σ l0 4 14).bind (fun x2 => (gI σ l0 4 18).bind (fun x3 => (wI σ x2 x3 l1).bind (fun σ4 => (gR σ4 l0 4 15).bind (fun x5 => (gI σ4 l0 4 18).bind (fun x6 => (wI σ4 x5 x6 l2).bind (fun σ7 => (gR σ7 l0 4 16).bind (fun x8 => (gI σ7 l0 4 18).bind (fun x9 => (wI σ7 x8 x9 l3).bind (fun σ10 => (gR σ10 l0 4 17).bind (fun x11 => (gI σ10 l0 4 18).bind (fun x12 => (wI σ10 x11 x12 l4).bind (fun σ13 => (gI σ13 l0 4 18).bind (fun x14 => (sI σ13 l0 4 18 (x14 + (1 : Int32))).bind (fun σ15 => some ((1 : Int32), σ15))))))))))))))) else some ((0 : Int32), σ)))
set_option maxHeartbeats 4000000 in
set_option maxRecDepth 20000 in
theorem m_X4_openScope {G : xG} {π : Nat → Nat} {d C Z : Nat} {Q : xQ} {σ : xM} {l0 : Nat} {l1 : Int32} {l2 : Int32} {l3 : Int32} {l4 : Int32} {x : (Int32 × xM)} (hf : f_X4_openScope σ l0 l1 l2 l3 l4 = some x) (hR : ∀ g, x = g → Q (.inl (some (.int g.1))) (g.2) π) : xMach G π J_X4_openScope (d + 0) C Z 0 (lv_args 0 [.ref l0, .int l1, .int l2, .int l3, .int l4]) [] σ Q := by
  unfold f_X4_openScope at hf
  refine xm_stL (L' := [(0, .ref l0), (1, .int l1), (2, .int l2), (3, .int l3), (4, .int l4)]) rfl ?_
  refine xm_aload_n dX4_openScope_0 rfl ?_
  refine xb_getI (a := l0) (c := 4) (k := 18) dX4_openScope_1 xcl4 (by decide) xw_439 rfl hf (fun x1 ex1 hf => ?_)
  refine xm_sipush dX4_openScope_4 (v := 240) (by decide) ?_
  refine xb_icmp_lt 12 dX4_openScope_7 (by decide) hf (fun c hf => ?_) (fun c hf => ?_)
  · refine xm_aload_n dX4_openScope_12 rfl ?_
    refine xb_getR (a := l0) (c := 4) (k := 14) dX4_openScope_13 xcl4 (by decide) xw_435 rfl hf (fun x2 ex2 hf => ?_)
    refine xm_aload_n dX4_openScope_16 rfl ?_
    refine xb_getI (a := l0) (c := 4) (k := 18) dX4_openScope_17 xcl4 (by decide) xw_439 rfl hf (fun x3 ex3 hf => ?_)
    refine xm_iload_n dX4_openScope_20 rfl ?_
    refine xb_iast dX4_openScope_21 hf (fun σ4 eσ4 hf => ?_)
    refine xm_aload_n dX4_openScope_22 rfl ?_
    refine xb_getR (a := l0) (c := 4) (k := 15) dX4_openScope_23 xcl4 (by decide) xw_436 rfl hf (fun x5 ex5 hf => ?_)
    refine xm_aload_n dX4_openScope_26 rfl ?_
    refine xb_getI (a := l0) (c := 4) (k := 18) dX4_openScope_27 xcl4 (by decide) xw_439 rfl hf (fun x6 ex6 hf => ?_)
    refine xm_iload_n dX4_openScope_30 rfl ?_
    refine xb_iast dX4_openScope_31 hf (fun σ7 eσ7 hf => ?_)
    refine xm_aload_n dX4_openScope_32 rfl ?_
    refine xb_getR (a := l0) (c := 4) (k := 16) dX4_openScope_33 xcl4 (by decide) xw_437 rfl hf (fun x8 ex8 hf => ?_)
    refine xm_aload_n dX4_openScope_36 rfl ?_
    refine xb_getI (a := l0) (c := 4) (k := 18) dX4_openScope_37 xcl4 (by decide) xw_439 rfl hf (fun x9 ex9 hf => ?_)
    refine xm_iload_n dX4_openScope_40 rfl ?_
    refine xb_iast dX4_openScope_41 hf (fun σ10 eσ10 hf => ?_)
    refine xm_aload_n dX4_openScope_42 rfl ?_
    refine xb_getR (a := l0) (c := 4) (k := 17) dX4_openScope_43 xcl4 (by decide) xw_438 rfl hf (fun x11 ex11 hf => ?_)
    refine xm_aload_n dX4_openScope_46 rfl ?_
    refine xb_getI (a := l0) (c := 4) (k := 18) dX4_openScope_47 xcl4 (by decide) xw_439 rfl hf (fun x12 ex12 hf => ?_)
    refine xm_iload dX4_openScope_50 rfl ?_
    refine xb_iast dX4_openScope_52 hf (fun σ13 eσ13 hf => ?_)
    refine xm_aload_n dX4_openScope_53 rfl ?_
    refine xm_dup dX4_openScope_54 rfl ?_
    refine xb_getI (a := l0) (c := 4) (k := 18) dX4_openScope_55 xcl4 (by decide) xw_439 rfl hf (fun x14 ex14 hf => ?_)
    refine xm_iconst dX4_openScope_58 (v := 1) (by decide) ?_
    refine xm_iadd dX4_openScope_59 ?_
    refine xb_putI (a := l0) (c := 4) (k := 18) dX4_openScope_60 xcl4 (by decide) xw_439 rfl rfl hf (fun σ15 eσ15 hf => ?_)
    refine xm_iconst dX4_openScope_63 (v := 1) (by decide) ?_
    cases hf
    exact xm_zret dX4_openScope_64 rfl rfl (hR _ rfl)
  · refine xm_iconst dX4_openScope_10 (v := 0) (by decide) ?_
    cases hf
    exact xm_zret dX4_openScope_11 rfl rfl (hR _ rfl)
-- Rankwise$Machine.openSum(II)I
def f_X4_openSum_j51 (σ : xM)  : Option (Int32 × xM) :=
  some ((2 : Int32), σ)
set_option maxHeartbeats 4000000 in
set_option maxRecDepth 20000 in
theorem L_X4_openSum_j51 {G : xG} {π : Nat → Nat} {d C Z : Nat} {Q : xQ} (σ : xM)  {x : (Int32 × xM)} (hf : f_X4_openSum_j51 σ = some x) (hR : ∀ g, x = g → Q (.inl (some (.int g.1))) (g.2) π) : xMach G π J_X4_openSum (d + 3) C Z 51 [] [] σ Q := by
  unfold f_X4_openSum_j51 at hf
  refine xm_iconst dX4_openSum_51 (v := 2) (by decide) ?_
  cases hf
  exact xm_iret dX4_openSum_52 rfl (hR _ rfl)
def f_X4_openSum_j137 (σ : xM) (l0 : Nat) (l1 : Int32) (s0 : Int32) (s1 : Int32) (s2 : Nat) : Option (Int32 × xM) :=
  (wI σ s2 s1 s0).bind (fun σ22 => (gR σ22 l0 4 9).bind (fun x23 => (wI σ22 x23 l1 (4 : Int32)).bind (fun σ24 => some ((0 : Int32), σ24))))
set_option maxHeartbeats 4000000 in
set_option maxRecDepth 20000 in
theorem L_X4_openSum_j137 {G : xG} {π : Nat → Nat} {d C Z : Nat} {Q : xQ} (σ : xM) (l0 : Nat) (l1 : Int32) (s0 : Int32) (s1 : Int32) (s2 : Nat) {x : (Int32 × xM)} (hf : f_X4_openSum_j137 σ l0 l1 s0 s1 s2 = some x) (hR : ∀ g, x = g → Q (.inl (some (.int g.1))) (g.2) π) : xMach G π J_X4_openSum (d + 3) C Z 137 [(0, .ref l0), (1, .int l1)] [.int s0, .int s1, .ref s2] σ Q := by
  unfold f_X4_openSum_j137 at hf
  refine xb_iast dX4_openSum_137 hf (fun σ22 eσ22 hf => ?_)
  refine xm_aload_n dX4_openSum_138 rfl ?_
  refine xb_getR (a := l0) (c := 4) (k := 9) dX4_openSum_139 xcl4 (by decide) xw_430 rfl hf (fun x23 ex23 hf => ?_)
  refine xm_iload_n dX4_openSum_142 rfl ?_
  refine xm_iconst dX4_openSum_143 (v := 4) (by decide) ?_
  refine xb_iast dX4_openSum_144 hf (fun σ24 eσ24 hf => ?_)
  refine xm_iconst dX4_openSum_145 (v := 0) (by decide) ?_
  cases hf
  exact xm_iret dX4_openSum_146 rfl (hR _ rfl)
def f_X4_openSum (σ : xM) (l0 : Nat) (l1 : Int32) (l2 : Int32) : Option (Int32 × xM) :=
  (gI σ l0 4 3).bind (fun x1 => (if (2 : Int32) ≤ x1 then (gR σ l0 4 2).bind (fun x2 => (gI σ l0 4 3).bind (fun x3 => ((aR σ x2 16 (x3 - (2 : Int32))).bind id).bind (fun x4 => (gR σ l0 4 2).bind (fun x5 => (gI σ l0 4 3).bind (fun x6 => ((aR σ x5 16 (x6 - (1 : Int32))).bind id).bind (fun x7 => (if xk σ x4 2 = true then (f_X2_isWhole σ x4).bind (fun p8 => (if p8 = (0 : Int32) then f_X4_openSum_j51 σ else (if xk σ x7 2 = true then (f_X2_isWhole σ x7).bind (fun p9 => (if p9 = (0 : Int32) then f_X4_openSum_j51 σ else (gR σ l0 4 1).bind (fun x10 => (gR σ l0 4 5).bind (fun x11 => (if xk σ x10 0 = true then (f_X0_sum σ x10 x11 x7 x4 (1 : Int32)).bind (fun p12 => (gR p12 l0 4 5).bind (fun x13 => (gR p12 x13 2 0).bind (fun x14 => (if xk p12 x14 10 = true then (f_X10_clamped p12 x14).bind (fun p15 => (if p15 < (30 : Int32) then (gI p12 l0 4 3).bind (fun x16 => (gR p12 l0 4 10).bind (fun x17 => (aI p12 x17 14 l1).bind (fun x18 => (if xk p12 l0 4 = true then (f_X4_openScope p12 l0 l2 (0 : Int32) (x16 - (2 : Int32)) x18).bind (fun p19 => (if p19.1 = (0 : Int32) then some ((9 : Int32), p19.2) else (if xk p19.2 x7 2 = true then (f_X2_set p19.2 x7 (0 : Int64)).bind (fun p20 => (gR p20 l0 4 11).bind (fun x21 => (if (0 : Int32) ≤ p15 then f_X4_openSum_j137 p20 l0 l1 (p15 + (1 : Int32)) l1 x21 else f_X4_openSum_j137 p20 l0 l1 (0 : Int32) l1 x21))) else none))) else none)))) else some ((3 : Int32), p12))) else none)))) else none))))) else none))) else none))))))) else some ((10 : Int32), σ)))
set_option maxHeartbeats 4000000 in
set_option maxRecDepth 20000 in
theorem m_X4_openSum {G : xG} {π : Nat → Nat} {d C Z : Nat} {Q : xQ} {σ : xM} {l0 : Nat} {l1 : Int32} {l2 : Int32} {x : (Int32 × xM)} (hf : f_X4_openSum σ l0 l1 l2 = some x) (hR : ∀ g, x = g → Q (.inl (some (.int g.1))) (g.2) π) : xMach G π J_X4_openSum (d + 3) C Z 0 (lv_args 0 [.ref l0, .int l1, .int l2]) [] σ Q := by
  unfold f_X4_openSum at hf
  refine xm_stL (L' := [(0, .ref l0), (1, .int l1), (2, .int l2)]) rfl ?_
  refine xm_aload_n dX4_openSum_0 rfl ?_
  refine xb_getI (a := l0) (c := 4) (k := 3) dX4_openSum_1 xcl4 (by decide) xw_424 rfl hf (fun x1 ex1 hf => ?_)
  refine xm_iconst dX4_openSum_4 (v := 2) (by decide) ?_
  refine xb_icmp_ge 11 dX4_openSum_5 (by decide) hf (fun c hf => ?_) (fun c hf => ?_)
  · refine xm_aload_n dX4_openSum_11 rfl ?_
    refine xb_getR (a := l0) (c := 4) (k := 2) dX4_openSum_12 xcl4 (by decide) xw_423 rfl hf (fun x2 ex2 hf => ?_)
    refine xm_aload_n dX4_openSum_15 rfl ?_
    refine xb_getI (a := l0) (c := 4) (k := 3) dX4_openSum_16 xcl4 (by decide) xw_424 rfl hf (fun x3 ex3 hf => ?_)
    refine xm_iconst dX4_openSum_19 (v := 2) (by decide) ?_
    refine xm_isub dX4_openSum_20 ?_
    refine xb_aaldS dX4_openSum_21 (by decide) hf (fun x4 ex4 hf => ?_)
    refine xm_astore_n dX4_openSum_22 (by decide) (xm_stL (L' := [(3, .ref x4), (0, .ref l0), (1, .int l1), (2, .int l2)]) rfl ?_)
    refine xm_aload_n dX4_openSum_23 rfl ?_
    refine xb_getR (a := l0) (c := 4) (k := 2) dX4_openSum_24 xcl4 (by decide) xw_423 rfl hf (fun x5 ex5 hf => ?_)
    refine xm_aload_n dX4_openSum_27 rfl ?_
    refine xb_getI (a := l0) (c := 4) (k := 3) dX4_openSum_28 xcl4 (by decide) xw_424 rfl hf (fun x6 ex6 hf => ?_)
    refine xm_iconst dX4_openSum_31 (v := 1) (by decide) ?_
    refine xm_isub dX4_openSum_32 ?_
    refine xb_aaldS dX4_openSum_33 (by decide) hf (fun x7 ex7 hf => ?_)
    refine xm_astore dX4_openSum_34 (by decide) (xm_stL (L' := [(4, .ref x7), (3, .ref x4), (0, .ref l0), (1, .int l1), (2, .int l2)]) rfl ?_)
    refine xm_aload_n dX4_openSum_36 rfl ?_
    refine xb_if hf (fun hb hf => ?_) (fun _ q => nomatch q)
    obtain ⟨p8, ep8, hf⟩ := xbind hf
    refine xb_callV (As := []) (v0 := (some (.int p8))) (τ0 := σ) dX4_openSum_37 (xc_X2_isWhole _ _) xcl2 xw_1029 xw_1030 xw_1031 hb rfl (Nat.le_of_ble_eq_true rfl) rfl (Nat.le_of_ble_eq_true rfl) (fun Q1 hq => m_X2_isWhole (d := d + 1) ep8 (fun g hg => by subst hg; exact hq)) ?_
    refine xb_if_eq 51 dX4_openSum_40 (by decide) hf (fun c hf => ?_) (fun c hf => ?_)
    · exact xm_sub [] rfl (L_X4_openSum_j51 σ hf hR)
    · refine xm_aload dX4_openSum_43 rfl ?_
      refine xb_if hf (fun hb hf => ?_) (fun _ q => nomatch q)
      obtain ⟨p9, ep9, hf⟩ := xbind hf
      refine xb_callV (As := []) (v0 := (some (.int p9))) (τ0 := σ) dX4_openSum_45 (xc_X2_isWhole _ _) xcl2 xw_1029 xw_1030 xw_1031 hb rfl (Nat.le_of_ble_eq_true rfl) rfl (Nat.le_of_ble_eq_true rfl) (fun Q1 hq => m_X2_isWhole (d := d + 1) ep9 (fun g hg => by subst hg; exact hq)) ?_
      refine xb_if_ne 53 dX4_openSum_48 (by decide) hf (fun c hf => ?_) (fun c hf => ?_)
      · refine xm_aload_n dX4_openSum_53 rfl ?_
        refine xb_getR (a := l0) (c := 4) (k := 1) dX4_openSum_54 xcl4 (by decide) xw_422 rfl hf (fun x10 ex10 hf => ?_)
        refine xm_aload_n dX4_openSum_57 rfl ?_
        refine xb_getR (a := l0) (c := 4) (k := 5) dX4_openSum_58 xcl4 (by decide) xw_426 rfl hf (fun x11 ex11 hf => ?_)
        refine xm_aload dX4_openSum_61 rfl ?_
        refine xm_aload_n dX4_openSum_63 rfl ?_
        refine xm_iconst dX4_openSum_64 (v := 1) (by decide) ?_
        refine xb_if hf (fun hb hf => ?_) (fun _ q => nomatch q)
        obtain ⟨p12, ep12, hf⟩ := xbind hf
        refine xb_callV (As := [.ref x11, .ref x7, .ref x4, .int (1 : Int32)]) (v0 := none) (τ0 := p12) dX4_openSum_65 (xc_X0_sum _ _) xcl0 xw_1037 xw_1038 xw_1039 hb rfl (Nat.le_of_ble_eq_true rfl) rfl (Nat.le_of_ble_eq_true rfl) (fun Q1 hq => m_X0_sum (d := d + 0) ep12 (fun g hg => by subst hg; exact hq)) ?_
        refine xm_aload_n dX4_openSum_68 rfl ?_
        refine xb_getR (a := l0) (c := 4) (k := 5) dX4_openSum_69 xcl4 (by decide) xw_426 rfl hf (fun x13 ex13 hf => ?_)
        refine xb_getR (a := x13) (c := 2) (k := 0) dX4_openSum_72 xcl2 (by decide) xw_259 rfl hf (fun x14 ex14 hf => ?_)
        refine xb_if hf (fun hb hf => ?_) (fun _ q => nomatch q)
        obtain ⟨p15, ep15, hf⟩ := xbind hf
        refine xb_callV (As := []) (v0 := (some (.int p15))) (τ0 := p12) dX4_openSum_75 (xc_X10_clamped _ _) xcl10 xw_1060 xw_1061 xw_1062 hb rfl (Nat.le_of_ble_eq_true rfl) rfl (Nat.le_of_ble_eq_true rfl) (fun Q1 hq => m_X10_clamped (d := d + 2) ep15 (fun g hg => by subst hg; exact hq)) ?_
        refine xm_istore dX4_openSum_78 (by decide) (xm_stL (L' := [(5, .int p15), (4, .ref x7), (3, .ref x4), (0, .ref l0), (1, .int l1), (2, .int l2)]) rfl ?_)
        refine xm_iload dX4_openSum_80 rfl ?_
        refine xm_bipush dX4_openSum_82 (v := 30) (by decide) ?_
        refine xb_icmp_lt 89 dX4_openSum_84 (by decide) hf (fun c hf => ?_) (fun c hf => ?_)
        · refine xm_aload_n dX4_openSum_89 rfl ?_
          refine xm_iload_n dX4_openSum_90 rfl ?_
          refine xm_iconst dX4_openSum_91 (v := 0) (by decide) ?_
          refine xm_aload_n dX4_openSum_92 rfl ?_
          refine xb_getI (a := l0) (c := 4) (k := 3) dX4_openSum_93 xcl4 (by decide) xw_424 rfl hf (fun x16 ex16 hf => ?_)
          refine xm_iconst dX4_openSum_96 (v := 2) (by decide) ?_
          refine xm_isub dX4_openSum_97 ?_
          refine xm_aload_n dX4_openSum_98 rfl ?_
          refine xb_getR (a := l0) (c := 4) (k := 10) dX4_openSum_99 xcl4 (by decide) xw_431 rfl hf (fun x17 ex17 hf => ?_)
          refine xm_iload_n dX4_openSum_102 rfl ?_
          refine xb_iald dX4_openSum_103 hf (fun x18 ex18 hf => ?_)
          refine xb_if hf (fun hb hf => ?_) (fun _ q => nomatch q)
          obtain ⟨p19, ep19, hf⟩ := xbind hf
          refine xb_callV (As := [.int l2, .int (0 : Int32), .int (x16 - (2 : Int32)), .int x18]) (v0 := (some (.int p19.1))) (τ0 := p19.2) dX4_openSum_104 (xc_X4_openScope _ _) xcl4 xw_1065 xw_1067 xs_33 hb rfl (Nat.le_of_ble_eq_true rfl) rfl (Nat.le_of_ble_eq_true rfl) (fun Q1 hq => m_X4_openScope (d := d + 2) ep19 (fun g hg => by subst hg; exact hq)) ?_
          refine xb_if_ne 113 dX4_openSum_107 (by decide) hf (fun c hf => ?_) (fun c hf => ?_)
          · refine xm_aload dX4_openSum_113 rfl ?_
            refine xm_lconst dX4_openSum_115 (v := 0) (by decide) ?_
            refine xb_if hf (fun hb hf => ?_) (fun _ q => nomatch q)
            obtain ⟨p20, ep20, hf⟩ := xbind hf
            refine xb_callV (As := [.long (0 : Int64)]) (v0 := none) (τ0 := p20) dX4_openSum_116 (xc_X2_set _ _) xcl2 xw_1069 xw_1070 xw_1071 hb rfl (Nat.le_of_ble_eq_true rfl) rfl (Nat.le_of_ble_eq_true rfl) (fun Q1 hq => m_X2_set (d := d + 1) ep20 (fun g hg => by subst hg; exact hq)) ?_
            refine xm_aload_n dX4_openSum_119 rfl ?_
            refine xb_getR (a := l0) (c := 4) (k := 11) dX4_openSum_120 xcl4 (by decide) xw_432 rfl hf (fun x21 ex21 hf => ?_)
            refine xm_iload_n dX4_openSum_123 rfl ?_
            refine xm_iload dX4_openSum_124 rfl ?_
            refine xb_if_ge 133 dX4_openSum_126 (by decide) hf (fun c hf => ?_) (fun c hf => ?_)
            · refine xm_iload dX4_openSum_133 rfl ?_
              refine xm_iconst dX4_openSum_135 (v := 1) (by decide) ?_
              refine xm_iadd dX4_openSum_136 ?_
              exact xm_sub [3, 4] rfl (L_X4_openSum_j137 p20 l0 l1 (p15 + (1 : Int32)) l1 x21 hf hR)
            · refine xm_iconst dX4_openSum_129 (v := 0) (by decide) ?_
              refine xm_goto 137 dX4_openSum_130 (by decide) ?_
              exact xm_sub [3, 4] rfl (L_X4_openSum_j137 p20 l0 l1 (0 : Int32) l1 x21 hf hR)
          · refine xm_bipush dX4_openSum_110 (v := 9) (by decide) ?_
            cases hf
            exact xm_iret dX4_openSum_112 rfl (hR _ rfl)
        · refine xm_iconst dX4_openSum_87 (v := 3) (by decide) ?_
          cases hf
          exact xm_iret dX4_openSum_88 rfl (hR _ rfl)
      · exact xm_sub [] rfl (L_X4_openSum_j51 σ hf hR)
  · refine xm_bipush dX4_openSum_8 (v := 10) (by decide) ?_
    cases hf
    exact xm_iret dX4_openSum_10 rfl (hR _ rfl)
-- Rankwise$Machine.nextOfSum(ILRankwise$Tree;I)I
def f_X4_nextOfSum_j77 (σ : xM) (l0 : Nat) (l1 : Int32) : Option (Int32 × xM) :=
  (gI σ l0 4 18).bind (fun x4 => (sI σ l0 4 18 (x4 - (1 : Int32))).bind (fun σ5 => (sI σ5 l0 4 12 l1).bind (fun σ6 => some ((0 : Int32), σ6))))
set_option maxHeartbeats 4000000 in
set_option maxRecDepth 20000 in
theorem L_X4_nextOfSum_j77 {G : xG} {π : Nat → Nat} {d C Z : Nat} {Q : xQ} (σ : xM) (l0 : Nat) (l1 : Int32) {x : (Int32 × xM)} (hf : f_X4_nextOfSum_j77 σ l0 l1 = some x) (hR : ∀ g, x = g → Q (.inl (some (.int g.1))) (g.2) π) : xMach G π J_X4_nextOfSum (d + 3) C Z 77 [(0, .ref l0), (1, .int l1)] [] σ Q := by
  unfold f_X4_nextOfSum_j77 at hf
  refine xm_aload_n dX4_nextOfSum_77 rfl ?_
  refine xm_dup dX4_nextOfSum_78 rfl ?_
  refine xb_getI (a := l0) (c := 4) (k := 18) dX4_nextOfSum_79 xcl4 (by decide) xw_439 rfl hf (fun x4 ex4 hf => ?_)
  refine xm_iconst dX4_nextOfSum_82 (v := 1) (by decide) ?_
  refine xm_isub dX4_nextOfSum_83 ?_
  refine xb_putI (a := l0) (c := 4) (k := 18) dX4_nextOfSum_84 xcl4 (by decide) xw_439 rfl rfl hf (fun σ5 eσ5 hf => ?_)
  refine xm_aload_n dX4_nextOfSum_87 rfl ?_
  refine xm_iload_n dX4_nextOfSum_88 rfl ?_
  refine xb_putI (a := l0) (c := 4) (k := 12) dX4_nextOfSum_89 xcl4 (by decide) xw_433 rfl rfl hf (fun σ6 eσ6 hf => ?_)
  refine xm_iconst dX4_nextOfSum_92 (v := 0) (by decide) ?_
  cases hf
  exact xm_iret dX4_nextOfSum_93 rfl (hR _ rfl)
def f_X4_nextOfSum (σ : xM) (l0 : Nat) (l1 : Int32) (l2 : Nat) (l3 : Int32) : Option (Int32 × xM) :=
  (gR σ l0 4 11).bind (fun x1 => (aI σ x1 14 l1).bind (fun x2 => (if x2 ≤ (0 : Int32) then (gI σ l0 4 3).bind (fun x3 => (if x3 ≤ (1 : Int32) then f_X4_nextOfSum_j77 σ l0 l1 else (gR σ l0 4 2).bind (fun x7 => (gI σ l0 4 3).bind (fun x8 => ((aR σ x7 16 (x8 - (2 : Int32))).bind id).bind (fun x9 => (gR σ l0 4 2).bind (fun x10 => (gI σ l0 4 3).bind (fun x11 => ((aR σ x10 16 (x11 - (1 : Int32))).bind id).bind (fun x12 => (if xk σ x9 2 = true then (f_X2_copy σ x9 x12).bind (fun p13 => (gI p13 l0 4 3).bind (fun x14 => (sI p13 l0 4 3 (x14 - (1 : Int32))).bind (fun σ15 => f_X4_nextOfSum_j77 σ15 l0 l1))) else none))))))))) else (gR σ l0 4 9).bind (fun x16 => (wI σ x16 l1 (5 : Int32)).bind (fun σ17 => (if xk σ17 l2 9 = true then (f_X9_child σ17 l2 l3 (3 : Int32)).bind (fun p18 => (gI σ17 l0 4 18).bind (fun x19 => (if xk σ17 l0 4 = true then (f_X4_begin σ17 l0 l2 p18 (x19 - (1 : Int32))).bind (fun p20 => some (p20.1, p20.2)) else none))) else none))))))
set_option maxHeartbeats 4000000 in
set_option maxRecDepth 20000 in
theorem m_X4_nextOfSum {G : xG} {π : Nat → Nat} {d C Z : Nat} {Q : xQ} {σ : xM} {l0 : Nat} {l1 : Int32} {l2 : Nat} {l3 : Int32} {x : (Int32 × xM)} (hf : f_X4_nextOfSum σ l0 l1 l2 l3 = some x) (hR : ∀ g, x = g → Q (.inl (some (.int g.1))) (g.2) π) : xMach G π J_X4_nextOfSum (d + 3) C Z 0 (lv_args 0 [.ref l0, .int l1, .ref l2, .int l3]) [] σ Q := by
  unfold f_X4_nextOfSum at hf
  refine xm_stL (L' := [(0, .ref l0), (1, .int l1), (2, .ref l2), (3, .int l3)]) rfl ?_
  refine xm_aload_n dX4_nextOfSum_0 rfl ?_
  refine xb_getR (a := l0) (c := 4) (k := 11) dX4_nextOfSum_1 xcl4 (by decide) xw_432 rfl hf (fun x1 ex1 hf => ?_)
  refine xm_iload_n dX4_nextOfSum_4 rfl ?_
  refine xb_iald dX4_nextOfSum_5 hf (fun x2 ex2 hf => ?_)
  refine xb_if_le 34 dX4_nextOfSum_6 (by decide) hf (fun c hf => ?_) (fun c hf => ?_)
  · refine xm_aload_n dX4_nextOfSum_34 rfl ?_
    refine xb_getI (a := l0) (c := 4) (k := 3) dX4_nextOfSum_35 xcl4 (by decide) xw_424 rfl hf (fun x3 ex3 hf => ?_)
    refine xm_iconst dX4_nextOfSum_38 (v := 1) (by decide) ?_
    refine xb_icmp_le 77 dX4_nextOfSum_39 (by decide) hf (fun c hf => ?_) (fun c hf => ?_)
    · exact xm_sub [0, 1] rfl (L_X4_nextOfSum_j77 σ l0 l1 hf hR)
    · refine xm_aload_n dX4_nextOfSum_42 rfl ?_
      refine xb_getR (a := l0) (c := 4) (k := 2) dX4_nextOfSum_43 xcl4 (by decide) xw_423 rfl hf (fun x7 ex7 hf => ?_)
      refine xm_aload_n dX4_nextOfSum_46 rfl ?_
      refine xb_getI (a := l0) (c := 4) (k := 3) dX4_nextOfSum_47 xcl4 (by decide) xw_424 rfl hf (fun x8 ex8 hf => ?_)
      refine xm_iconst dX4_nextOfSum_50 (v := 2) (by decide) ?_
      refine xm_isub dX4_nextOfSum_51 ?_
      refine xb_aaldS dX4_nextOfSum_52 (by decide) hf (fun x9 ex9 hf => ?_)
      refine xm_aload_n dX4_nextOfSum_53 rfl ?_
      refine xb_getR (a := l0) (c := 4) (k := 2) dX4_nextOfSum_54 xcl4 (by decide) xw_423 rfl hf (fun x10 ex10 hf => ?_)
      refine xm_aload_n dX4_nextOfSum_57 rfl ?_
      refine xb_getI (a := l0) (c := 4) (k := 3) dX4_nextOfSum_58 xcl4 (by decide) xw_424 rfl hf (fun x11 ex11 hf => ?_)
      refine xm_iconst dX4_nextOfSum_61 (v := 1) (by decide) ?_
      refine xm_isub dX4_nextOfSum_62 ?_
      refine xb_aaldS dX4_nextOfSum_63 (by decide) hf (fun x12 ex12 hf => ?_)
      refine xb_if hf (fun hb hf => ?_) (fun _ q => nomatch q)
      obtain ⟨p13, ep13, hf⟩ := xbind hf
      refine xb_callV (As := [.ref x12]) (v0 := none) (τ0 := p13) dX4_nextOfSum_64 (xc_X2_copy _ _) xcl2 xw_964 xw_965 xw_966 hb rfl (Nat.le_of_ble_eq_true rfl) rfl (Nat.le_of_ble_eq_true rfl) (fun Q1 hq => m_X2_copy (d := d + 0) ep13 (fun g hg => by subst hg; exact hq)) ?_
      refine xm_aload_n dX4_nextOfSum_67 rfl ?_
      refine xm_dup dX4_nextOfSum_68 rfl ?_
      refine xb_getI (a := l0) (c := 4) (k := 3) dX4_nextOfSum_69 xcl4 (by decide) xw_424 rfl hf (fun x14 ex14 hf => ?_)
      refine xm_iconst dX4_nextOfSum_72 (v := 1) (by decide) ?_
      refine xm_isub dX4_nextOfSum_73 ?_
      refine xb_putI (a := l0) (c := 4) (k := 3) dX4_nextOfSum_74 xcl4 (by decide) xw_424 rfl rfl hf (fun σ15 eσ15 hf => ?_)
      exact xm_sub [0, 1] rfl (L_X4_nextOfSum_j77 σ15 l0 l1 hf hR)
  · refine xm_aload_n dX4_nextOfSum_9 rfl ?_
    refine xb_getR (a := l0) (c := 4) (k := 9) dX4_nextOfSum_10 xcl4 (by decide) xw_430 rfl hf (fun x16 ex16 hf => ?_)
    refine xm_iload_n dX4_nextOfSum_13 rfl ?_
    refine xm_iconst dX4_nextOfSum_14 (v := 5) (by decide) ?_
    refine xb_iast dX4_nextOfSum_15 hf (fun σ17 eσ17 hf => ?_)
    refine xm_aload_n dX4_nextOfSum_16 rfl ?_
    refine xm_aload_n dX4_nextOfSum_17 rfl ?_
    refine xm_aload_n dX4_nextOfSum_18 rfl ?_
    refine xm_iload_n dX4_nextOfSum_19 rfl ?_
    refine xm_iconst dX4_nextOfSum_20 (v := 3) (by decide) ?_
    refine xb_if hf (fun hb hf => ?_) (fun _ q => nomatch q)
    obtain ⟨p18, ep18, hf⟩ := xbind hf
    refine xb_callV (As := [.int l3, .int (3 : Int32)]) (v0 := (some (.int p18))) (τ0 := σ17) dX4_nextOfSum_21 (xc_X9_child _ _) xcl9 xw_1017 xw_1018 xw_1019 hb rfl (Nat.le_of_ble_eq_true rfl) rfl (Nat.le_of_ble_eq_true rfl) (fun Q1 hq => m_X9_child (d := d + 1) ep18 (fun g hg => by subst hg; exact hq)) ?_
    refine xm_aload_n dX4_nextOfSum_24 rfl ?_
    refine xb_getI (a := l0) (c := 4) (k := 18) dX4_nextOfSum_25 xcl4 (by decide) xw_439 rfl hf (fun x19 ex19 hf => ?_)
    refine xm_iconst dX4_nextOfSum_28 (v := 1) (by decide) ?_
    refine xm_isub dX4_nextOfSum_29 ?_
    refine xb_if hf (fun hb hf => ?_) (fun _ q => nomatch q)
    obtain ⟨p20, ep20, hf⟩ := xbind hf
    refine xb_callV (As := [.ref l2, .int p18, .int (x19 - (1 : Int32))]) (v0 := (some (.int p20.1))) (τ0 := p20.2) dX4_nextOfSum_30 (xc_X4_begin _ _) xcl4 xw_935 xw_937 xs_20 hb rfl (Nat.le_of_ble_eq_true rfl) rfl (Nat.le_of_ble_eq_true rfl) (fun Q1 hq => m_X4_begin (d := d + 1) ep20 (fun g hg => by subst hg; exact hq)) ?_
    cases hf
    exact xm_iret dX4_nextOfSum_33 rfl (hR _ rfl)
-- Rankwise$Machine.addToSum(I)I
def f_X4_addToSum (σ : xM) (l0 : Nat) (l1 : Int32) : Option (Int32 × xM) :=
  (gI σ l0 4 3).bind (fun x1 => (if (3 : Int32) ≤ x1 then (gR σ l0 4 2).bind (fun x2 => (gI σ l0 4 3).bind (fun x3 => ((aR σ x2 16 (x3 - (3 : Int32))).bind id).bind (fun x4 => (gR σ l0 4 2).bind (fun x5 => (gI σ l0 4 3).bind (fun x6 => ((aR σ x5 16 (x6 - (2 : Int32))).bind id).bind (fun x7 => (gR σ l0 4 1).bind (fun x8 => (gR σ l0 4 5).bind (fun x9 => (gR σ l0 4 2).bind (fun x10 => (gI σ l0 4 3).bind (fun x11 => ((aR σ x10 16 (x11 - (1 : Int32))).bind id).bind (fun x12 => (if xk σ x8 0 = true then (f_X0_sum σ x8 x9 x7 x12 (0 : Int32)).bind (fun p13 => (gR p13 l0 4 1).bind (fun x14 => (gR p13 l0 4 5).bind (fun x15 => (if xk p13 x14 0 = true then (f_X0_settle p13 x14 x15).bind (fun p16 => (gR p16 l0 4 5).bind (fun x17 => (if xk p16 x17 2 = true then (f_X2_fits p16 x17).bind (fun p18 => (if p18 = (0 : Int32) then some ((3 : Int32), p16) else (gR p16 l0 4 5).bind (fun x19 => (if xk p16 x7 2 = true then (f_X2_copy p16 x7 x19).bind (fun p20 => (gI p20 l0 4 3).bind (fun x21 => (sI p20 l0 4 3 (x21 - (1 : Int32))).bind (fun σ22 => (gR σ22 l0 4 2).bind (fun x23 => (gI σ22 l0 4 3).bind (fun x24 => ((aR σ22 x23 16 x24).bind id).bind (fun x25 => (if xk σ22 x25 2 = true then (f_X2_set σ22 x25 (1 : Int64)).bind (fun p26 => (gR p26 l0 4 1).bind (fun x27 => (gR p26 l0 4 5).bind (fun x28 => (gR p26 l0 4 2).bind (fun x29 => (gI p26 l0 4 3).bind (fun x30 => ((aR p26 x29 16 x30).bind id).bind (fun x31 => (if xk p26 x27 0 = true then (f_X0_sum p26 x27 x28 x4 x31 (0 : Int32)).bind (fun p32 => (gR p32 l0 4 5).bind (fun x33 => (if xk p32 x4 2 = true then (f_X2_copy p32 x4 x33).bind (fun p34 => (gR p34 l0 4 11).bind (fun x35 => (aI p34 x35 14 l1).bind (fun x36 => (wI p34 x35 l1 (x36 - (1 : Int32))).bind (fun σ37 => (gR σ37 l0 4 9).bind (fun x38 => (wI σ37 x38 l1 (4 : Int32)).bind (fun σ39 => some ((0 : Int32), σ39))))))) else none))) else none))))))) else none))))))) else none)))) else none))) else none)))) else none)))))))))))) else some ((10 : Int32), σ)))
set_option maxHeartbeats 4000000 in
set_option maxRecDepth 20000 in
theorem m_X4_addToSum {G : xG} {π : Nat → Nat} {d C Z : Nat} {Q : xQ} {σ : xM} {l0 : Nat} {l1 : Int32} {x : (Int32 × xM)} (hf : f_X4_addToSum σ l0 l1 = some x) (hR : ∀ g, x = g → Q (.inl (some (.int g.1))) (g.2) π) : xMach G π J_X4_addToSum (d + 3) C Z 0 (lv_args 0 [.ref l0, .int l1]) [] σ Q := by
  unfold f_X4_addToSum at hf
  refine xm_stL (L' := [(0, .ref l0), (1, .int l1)]) rfl ?_
  refine xm_aload_n dX4_addToSum_0 rfl ?_
  refine xb_getI (a := l0) (c := 4) (k := 3) dX4_addToSum_1 xcl4 (by decide) xw_424 rfl hf (fun x1 ex1 hf => ?_)
  refine xm_iconst dX4_addToSum_4 (v := 3) (by decide) ?_
  refine xb_icmp_ge 11 dX4_addToSum_5 (by decide) hf (fun c hf => ?_) (fun c hf => ?_)
  · refine xm_aload_n dX4_addToSum_11 rfl ?_
    refine xb_getR (a := l0) (c := 4) (k := 2) dX4_addToSum_12 xcl4 (by decide) xw_423 rfl hf (fun x2 ex2 hf => ?_)
    refine xm_aload_n dX4_addToSum_15 rfl ?_
    refine xb_getI (a := l0) (c := 4) (k := 3) dX4_addToSum_16 xcl4 (by decide) xw_424 rfl hf (fun x3 ex3 hf => ?_)
    refine xm_iconst dX4_addToSum_19 (v := 3) (by decide) ?_
    refine xm_isub dX4_addToSum_20 ?_
    refine xb_aaldS dX4_addToSum_21 (by decide) hf (fun x4 ex4 hf => ?_)
    refine xm_astore_n dX4_addToSum_22 (by decide) (xm_stL (L' := [(2, .ref x4), (0, .ref l0), (1, .int l1)]) rfl ?_)
    refine xm_aload_n dX4_addToSum_23 rfl ?_
    refine xb_getR (a := l0) (c := 4) (k := 2) dX4_addToSum_24 xcl4 (by decide) xw_423 rfl hf (fun x5 ex5 hf => ?_)
    refine xm_aload_n dX4_addToSum_27 rfl ?_
    refine xb_getI (a := l0) (c := 4) (k := 3) dX4_addToSum_28 xcl4 (by decide) xw_424 rfl hf (fun x6 ex6 hf => ?_)
    refine xm_iconst dX4_addToSum_31 (v := 2) (by decide) ?_
    refine xm_isub dX4_addToSum_32 ?_
    refine xb_aaldS dX4_addToSum_33 (by decide) hf (fun x7 ex7 hf => ?_)
    refine xm_astore_n dX4_addToSum_34 (by decide) (xm_stL (L' := [(3, .ref x7), (2, .ref x4), (0, .ref l0), (1, .int l1)]) rfl ?_)
    refine xm_aload_n dX4_addToSum_35 rfl ?_
    refine xb_getR (a := l0) (c := 4) (k := 1) dX4_addToSum_36 xcl4 (by decide) xw_422 rfl hf (fun x8 ex8 hf => ?_)
    refine xm_aload_n dX4_addToSum_39 rfl ?_
    refine xb_getR (a := l0) (c := 4) (k := 5) dX4_addToSum_40 xcl4 (by decide) xw_426 rfl hf (fun x9 ex9 hf => ?_)
    refine xm_aload_n dX4_addToSum_43 rfl ?_
    refine xm_aload_n dX4_addToSum_44 rfl ?_
    refine xb_getR (a := l0) (c := 4) (k := 2) dX4_addToSum_45 xcl4 (by decide) xw_423 rfl hf (fun x10 ex10 hf => ?_)
    refine xm_aload_n dX4_addToSum_48 rfl ?_
    refine xb_getI (a := l0) (c := 4) (k := 3) dX4_addToSum_49 xcl4 (by decide) xw_424 rfl hf (fun x11 ex11 hf => ?_)
    refine xm_iconst dX4_addToSum_52 (v := 1) (by decide) ?_
    refine xm_isub dX4_addToSum_53 ?_
    refine xb_aaldS dX4_addToSum_54 (by decide) hf (fun x12 ex12 hf => ?_)
    refine xm_iconst dX4_addToSum_55 (v := 0) (by decide) ?_
    refine xb_if hf (fun hb hf => ?_) (fun _ q => nomatch q)
    obtain ⟨p13, ep13, hf⟩ := xbind hf
    refine xb_callV (As := [.ref x9, .ref x7, .ref x12, .int (0 : Int32)]) (v0 := none) (τ0 := p13) dX4_addToSum_56 (xc_X0_sum _ _) xcl0 xw_1037 xw_1038 xw_1039 hb rfl (Nat.le_of_ble_eq_true rfl) rfl (Nat.le_of_ble_eq_true rfl) (fun Q1 hq => m_X0_sum (d := d + 0) ep13 (fun g hg => by subst hg; exact hq)) ?_
    refine xm_aload_n dX4_addToSum_59 rfl ?_
    refine xb_getR (a := l0) (c := 4) (k := 1) dX4_addToSum_60 xcl4 (by decide) xw_422 rfl hf (fun x14 ex14 hf => ?_)
    refine xm_aload_n dX4_addToSum_63 rfl ?_
    refine xb_getR (a := l0) (c := 4) (k := 5) dX4_addToSum_64 xcl4 (by decide) xw_426 rfl hf (fun x15 ex15 hf => ?_)
    refine xb_if hf (fun hb hf => ?_) (fun _ q => nomatch q)
    obtain ⟨p16, ep16, hf⟩ := xbind hf
    refine xb_callV (As := [.ref x15]) (v0 := none) (τ0 := p16) dX4_addToSum_67 (xc_X0_settle _ _) xcl0 xw_1081 xw_1082 xw_1083 hb rfl (Nat.le_of_ble_eq_true rfl) rfl (Nat.le_of_ble_eq_true rfl) (fun Q1 hq => m_X0_settle (d := d + 0) ep16 (fun g hg => by subst hg; exact hq)) ?_
    refine xm_aload_n dX4_addToSum_70 rfl ?_
    refine xb_getR (a := l0) (c := 4) (k := 5) dX4_addToSum_71 xcl4 (by decide) xw_426 rfl hf (fun x17 ex17 hf => ?_)
    refine xb_if hf (fun hb hf => ?_) (fun _ q => nomatch q)
    obtain ⟨p18, ep18, hf⟩ := xbind hf
    refine xb_callV (As := []) (v0 := (some (.int p18))) (τ0 := p16) dX4_addToSum_74 (xc_X2_fits _ _) xcl2 xw_1123 xw_1124 xw_1125 hb rfl (Nat.le_of_ble_eq_true rfl) rfl (Nat.le_of_ble_eq_true rfl) (fun Q1 hq => m_X2_fits (d := d + 1) ep18 (fun g hg => by subst hg; exact hq)) ?_
    refine xb_if_ne 82 dX4_addToSum_77 (by decide) hf (fun c hf => ?_) (fun c hf => ?_)
    · refine xm_aload_n dX4_addToSum_82 rfl ?_
      refine xm_aload_n dX4_addToSum_83 rfl ?_
      refine xb_getR (a := l0) (c := 4) (k := 5) dX4_addToSum_84 xcl4 (by decide) xw_426 rfl hf (fun x19 ex19 hf => ?_)
      refine xb_if hf (fun hb hf => ?_) (fun _ q => nomatch q)
      obtain ⟨p20, ep20, hf⟩ := xbind hf
      refine xb_callV (As := [.ref x19]) (v0 := none) (τ0 := p20) dX4_addToSum_87 (xc_X2_copy _ _) xcl2 xw_964 xw_965 xw_966 hb rfl (Nat.le_of_ble_eq_true rfl) rfl (Nat.le_of_ble_eq_true rfl) (fun Q1 hq => m_X2_copy (d := d + 0) ep20 (fun g hg => by subst hg; exact hq)) ?_
      refine xm_aload_n dX4_addToSum_90 rfl ?_
      refine xm_dup dX4_addToSum_91 rfl ?_
      refine xb_getI (a := l0) (c := 4) (k := 3) dX4_addToSum_92 xcl4 (by decide) xw_424 rfl hf (fun x21 ex21 hf => ?_)
      refine xm_iconst dX4_addToSum_95 (v := 1) (by decide) ?_
      refine xm_isub dX4_addToSum_96 ?_
      refine xb_putI (a := l0) (c := 4) (k := 3) dX4_addToSum_97 xcl4 (by decide) xw_424 rfl rfl hf (fun σ22 eσ22 hf => ?_)
      refine xm_aload_n dX4_addToSum_100 rfl ?_
      refine xb_getR (a := l0) (c := 4) (k := 2) dX4_addToSum_101 xcl4 (by decide) xw_423 rfl hf (fun x23 ex23 hf => ?_)
      refine xm_aload_n dX4_addToSum_104 rfl ?_
      refine xb_getI (a := l0) (c := 4) (k := 3) dX4_addToSum_105 xcl4 (by decide) xw_424 rfl hf (fun x24 ex24 hf => ?_)
      refine xb_aaldS dX4_addToSum_108 (by decide) hf (fun x25 ex25 hf => ?_)
      refine xm_lconst dX4_addToSum_109 (v := 1) (by decide) ?_
      refine xb_if hf (fun hb hf => ?_) (fun _ q => nomatch q)
      obtain ⟨p26, ep26, hf⟩ := xbind hf
      refine xb_callV (As := [.long (1 : Int64)]) (v0 := none) (τ0 := p26) dX4_addToSum_110 (xc_X2_set _ _) xcl2 xw_1069 xw_1070 xw_1071 hb rfl (Nat.le_of_ble_eq_true rfl) rfl (Nat.le_of_ble_eq_true rfl) (fun Q1 hq => m_X2_set (d := d + 1) ep26 (fun g hg => by subst hg; exact hq)) ?_
      refine xm_aload_n dX4_addToSum_113 rfl ?_
      refine xb_getR (a := l0) (c := 4) (k := 1) dX4_addToSum_114 xcl4 (by decide) xw_422 rfl hf (fun x27 ex27 hf => ?_)
      refine xm_aload_n dX4_addToSum_117 rfl ?_
      refine xb_getR (a := l0) (c := 4) (k := 5) dX4_addToSum_118 xcl4 (by decide) xw_426 rfl hf (fun x28 ex28 hf => ?_)
      refine xm_aload_n dX4_addToSum_121 rfl ?_
      refine xm_aload_n dX4_addToSum_122 rfl ?_
      refine xb_getR (a := l0) (c := 4) (k := 2) dX4_addToSum_123 xcl4 (by decide) xw_423 rfl hf (fun x29 ex29 hf => ?_)
      refine xm_aload_n dX4_addToSum_126 rfl ?_
      refine xb_getI (a := l0) (c := 4) (k := 3) dX4_addToSum_127 xcl4 (by decide) xw_424 rfl hf (fun x30 ex30 hf => ?_)
      refine xb_aaldS dX4_addToSum_130 (by decide) hf (fun x31 ex31 hf => ?_)
      refine xm_iconst dX4_addToSum_131 (v := 0) (by decide) ?_
      refine xb_if hf (fun hb hf => ?_) (fun _ q => nomatch q)
      obtain ⟨p32, ep32, hf⟩ := xbind hf
      refine xb_callV (As := [.ref x28, .ref x4, .ref x31, .int (0 : Int32)]) (v0 := none) (τ0 := p32) dX4_addToSum_132 (xc_X0_sum _ _) xcl0 xw_1037 xw_1038 xw_1039 hb rfl (Nat.le_of_ble_eq_true rfl) rfl (Nat.le_of_ble_eq_true rfl) (fun Q1 hq => m_X0_sum (d := d + 0) ep32 (fun g hg => by subst hg; exact hq)) ?_
      refine xm_aload_n dX4_addToSum_135 rfl ?_
      refine xm_aload_n dX4_addToSum_136 rfl ?_
      refine xb_getR (a := l0) (c := 4) (k := 5) dX4_addToSum_137 xcl4 (by decide) xw_426 rfl hf (fun x33 ex33 hf => ?_)
      refine xb_if hf (fun hb hf => ?_) (fun _ q => nomatch q)
      obtain ⟨p34, ep34, hf⟩ := xbind hf
      refine xb_callV (As := [.ref x33]) (v0 := none) (τ0 := p34) dX4_addToSum_140 (xc_X2_copy _ _) xcl2 xw_964 xw_965 xw_966 hb rfl (Nat.le_of_ble_eq_true rfl) rfl (Nat.le_of_ble_eq_true rfl) (fun Q1 hq => m_X2_copy (d := d + 0) ep34 (fun g hg => by subst hg; exact hq)) ?_
      refine xm_aload_n dX4_addToSum_143 rfl ?_
      refine xb_getR (a := l0) (c := 4) (k := 11) dX4_addToSum_144 xcl4 (by decide) xw_432 rfl hf (fun x35 ex35 hf => ?_)
      refine xm_iload_n dX4_addToSum_147 rfl ?_
      refine xm_dup2 dX4_addToSum_148 rfl rfl ?_
      refine xb_iald dX4_addToSum_149 hf (fun x36 ex36 hf => ?_)
      refine xm_iconst dX4_addToSum_150 (v := 1) (by decide) ?_
      refine xm_isub dX4_addToSum_151 ?_
      refine xb_iast dX4_addToSum_152 hf (fun σ37 eσ37 hf => ?_)
      refine xm_aload_n dX4_addToSum_153 rfl ?_
      refine xb_getR (a := l0) (c := 4) (k := 9) dX4_addToSum_154 xcl4 (by decide) xw_430 rfl hf (fun x38 ex38 hf => ?_)
      refine xm_iload_n dX4_addToSum_157 rfl ?_
      refine xm_iconst dX4_addToSum_158 (v := 4) (by decide) ?_
      refine xb_iast dX4_addToSum_159 hf (fun σ39 eσ39 hf => ?_)
      refine xm_iconst dX4_addToSum_160 (v := 0) (by decide) ?_
      cases hf
      exact xm_iret dX4_addToSum_161 rfl (hR _ rfl)
    · refine xm_iconst dX4_addToSum_80 (v := 3) (by decide) ?_
      cases hf
      exact xm_iret dX4_addToSum_81 rfl (hR _ rfl)
  · refine xm_bipush dX4_addToSum_8 (v := 10) (by decide) ?_
    cases hf
    exact xm_iret dX4_addToSum_10 rfl (hR _ rfl)
-- Rankwise$Machine.advanceSum(ILRankwise$Tree;I)I
def f_X4_advanceSum_j139 (σ : xM) (l0 : Nat) (l1 : Int32) : Option (Int32 × xM) :=
  (if xk σ l0 4 = true then (f_X4_addToSum σ l0 l1).bind (fun p3 => some (p3.1, p3.2)) else none)
set_option maxHeartbeats 4000000 in
set_option maxRecDepth 20000 in
theorem L_X4_advanceSum_j139 {G : xG} {π : Nat → Nat} {d C Z : Nat} {Q : xQ} (σ : xM) (l0 : Nat) (l1 : Int32) {x : (Int32 × xM)} (hf : f_X4_advanceSum_j139 σ l0 l1 = some x) (hR : ∀ g, x = g → Q (.inl (some (.int g.1))) (g.2) π) : xMach G π J_X4_advanceSum (d + 4) C Z 139 [(0, .ref l0), (1, .int l1)] [] σ Q := by
  unfold f_X4_advanceSum_j139 at hf
  refine xm_aload_n dX4_advanceSum_139 rfl ?_
  refine xm_iload_n dX4_advanceSum_140 rfl ?_
  refine xb_if hf (fun hb hf => ?_) (fun _ q => nomatch q)
  obtain ⟨p3, ep3, hf⟩ := xbind hf
  refine xb_callV (As := [.int l1]) (v0 := (some (.int p3.1))) (τ0 := p3.2) dX4_advanceSum_141 (xc_X4_addToSum _ _) xcl4 xw_1077 xw_1079 xs_35 hb rfl (Nat.le_of_ble_eq_true rfl) rfl (Nat.le_of_ble_eq_true rfl) (fun Q1 hq => m_X4_addToSum (d := d + 0) ep3 (fun g hg => by subst hg; exact hq)) ?_
  cases hf
  exact xm_iret dX4_advanceSum_144 rfl (hR _ rfl)
def f_X4_advanceSum_j72 (σ : xM) (s0 : Int32) : Option (Int32 × xM) :=
  some (s0, σ)
set_option maxHeartbeats 4000000 in
set_option maxRecDepth 20000 in
theorem L_X4_advanceSum_j72 {G : xG} {π : Nat → Nat} {d C Z : Nat} {Q : xQ} (σ : xM) (s0 : Int32) {x : (Int32 × xM)} (hf : f_X4_advanceSum_j72 σ s0 = some x) (hR : ∀ g, x = g → Q (.inl (some (.int g.1))) (g.2) π) : xMach G π J_X4_advanceSum (d + 4) C Z 72 [] [.int s0] σ Q := by
  unfold f_X4_advanceSum_j72 at hf
  cases hf
  exact xm_iret dX4_advanceSum_72 rfl (hR _ rfl)
def f_X4_advanceSum_j61 (σ : xM) (l4 : Int32) : Option (Int32 × xM) :=
  (if l4 = (0 : Int32) then f_X4_advanceSum_j72 σ (5 : Int32) else f_X4_advanceSum_j72 σ l4)
set_option maxHeartbeats 4000000 in
set_option maxRecDepth 20000 in
theorem L_X4_advanceSum_j61 {G : xG} {π : Nat → Nat} {d C Z : Nat} {Q : xQ} (σ : xM) (l4 : Int32) {x : (Int32 × xM)} (hf : f_X4_advanceSum_j61 σ l4 = some x) (hR : ∀ g, x = g → Q (.inl (some (.int g.1))) (g.2) π) : xMach G π J_X4_advanceSum (d + 4) C Z 61 [(4, .int l4)] [] σ Q := by
  unfold f_X4_advanceSum_j61 at hf
  refine xm_iload dX4_advanceSum_61 rfl ?_
  refine xb_if_eq 71 dX4_advanceSum_63 (by decide) hf (fun c hf => ?_) (fun c hf => ?_)
  · refine xm_iconst dX4_advanceSum_71 (v := 5) (by decide) ?_
    exact xm_sub [] rfl (L_X4_advanceSum_j72 σ (5 : Int32) hf hR)
  · refine xm_iload dX4_advanceSum_66 rfl ?_
    refine xm_goto 72 dX4_advanceSum_68 (by decide) ?_
    exact xm_sub [] rfl (L_X4_advanceSum_j72 σ l4 hf hR)
def f_X4_advanceSum (σ : xM) (l0 : Nat) (l1 : Int32) (l2 : Nat) (l3 : Int32) : Option (Int32 × xM) :=
  (gR σ l0 4 9).bind (fun x1 => (aI σ x1 14 l1).bind (fun x2 => (if x2 = (0 : Int32) then (if xk σ l0 4 = true then (f_X4_countNode σ l0).bind (fun p4 => (if p4.1 = (0 : Int32) then (gR p4.2 l2 9 3).bind (fun x5 => (aI p4.2 x5 14 l3).bind (fun x6 => (if x6 = (4 : Int32) then (gR p4.2 l2 9 0).bind (fun x7 => (if xk p4.2 l2 9 = true then (f_X9_child p4.2 l2 l3 (0 : Int32)).bind (fun p8 => (aI p4.2 x7 14 p8).bind (fun x9 => (if x9 = (1 : Int32) then (gR p4.2 l0 4 9).bind (fun x10 => (wI p4.2 x10 l1 (1 : Int32)).bind (fun σ11 => (if xk σ11 l0 4 = true then (f_X4_nextOperand σ11 l0 l1 l2 l3).bind (fun p12 => some (p12.1, p12.2)) else none))) else some ((10 : Int32), p4.2)))) else none)) else f_X4_advanceSum_j61 p4.2 p4.1))) else f_X4_advanceSum_j61 p4.2 p4.1)) else none) else (if x2 = (1 : Int32) then f_X4_advanceSum_j139 σ l0 l1 else (if x2 = (2 : Int32) then (if xk σ l0 4 = true then (f_X4_nextOperand σ l0 l1 l2 l3).bind (fun p13 => some (p13.1, p13.2)) else none) else (if x2 = (3 : Int32) then (gR σ l2 9 1).bind (fun x14 => (if xk σ l2 9 = true then (f_X9_child σ l2 l3 (0 : Int32)).bind (fun p15 => (aI σ x14 14 p15).bind (fun x16 => (if xk σ l0 4 = true then (f_X4_openSum σ l0 l1 x16).bind (fun p17 => some (p17.1, p17.2)) else none))) else none)) else (if x2 = (4 : Int32) then (if xk σ l0 4 = true then (f_X4_nextOfSum σ l0 l1 l2 l3).bind (fun p18 => some (p18.1, p18.2)) else none) else f_X4_advanceSum_j139 σ l0 l1)))))))
set_option maxHeartbeats 4000000 in
set_option maxRecDepth 20000 in
theorem m_X4_advanceSum {G : xG} {π : Nat → Nat} {d C Z : Nat} {Q : xQ} {σ : xM} {l0 : Nat} {l1 : Int32} {l2 : Nat} {l3 : Int32} {x : (Int32 × xM)} (hf : f_X4_advanceSum σ l0 l1 l2 l3 = some x) (hR : ∀ g, x = g → Q (.inl (some (.int g.1))) (g.2) π) : xMach G π J_X4_advanceSum (d + 4) C Z 0 (lv_args 0 [.ref l0, .int l1, .ref l2, .int l3]) [] σ Q := by
  unfold f_X4_advanceSum at hf
  refine xm_stL (L' := [(0, .ref l0), (1, .int l1), (2, .ref l2), (3, .int l3)]) rfl ?_
  refine xm_aload_n dX4_advanceSum_0 rfl ?_
  refine xb_getR (a := l0) (c := 4) (k := 9) dX4_advanceSum_1 xcl4 (by decide) xw_430 rfl hf (fun x1 ex1 hf => ?_)
  refine xm_iload_n dX4_advanceSum_4 rfl ?_
  refine xb_iald dX4_advanceSum_5 hf (fun x2 ex2 hf => ?_)
  refine xb_if hf (fun c hf => ?_) (fun n0 hf => ?_)
  · refine xm_tableIn 40 dX4_advanceSum_6 (by rw [c]; decide) (by rw [c]; decide) (by rw [c]; rfl) (by decide) ?_
    refine xm_aload_n dX4_advanceSum_40 rfl ?_
    refine xb_if hf (fun hb hf => ?_) (fun _ q => nomatch q)
    obtain ⟨p4, ep4, hf⟩ := xbind hf
    refine xb_callV (As := []) (v0 := (some (.int p4.1))) (τ0 := p4.2) dX4_advanceSum_41 (xc_X4_countNode _ _) xcl4 xw_1009 xw_1011 xs_28 hb rfl (Nat.le_of_ble_eq_true rfl) rfl (Nat.le_of_ble_eq_true rfl) (fun Q1 hq => m_X4_countNode (d := d + 3) ep4 (fun g hg => by subst hg; exact hq)) ?_
    refine xm_istore dX4_advanceSum_44 (by decide) (xm_stL (L' := [(4, .int p4.1), (0, .ref l0), (1, .int l1), (2, .ref l2), (3, .int l3)]) rfl ?_)
    refine xm_iload dX4_advanceSum_46 rfl ?_
    refine xb_if_ne 61 dX4_advanceSum_48 (by decide) hf (fun c hf => ?_) (fun c hf => ?_)
    · exact xm_sub [0] rfl (L_X4_advanceSum_j61 p4.2 p4.1 hf hR)
    · refine xm_aload_n dX4_advanceSum_51 rfl ?_
      refine xb_getR (a := l2) (c := 9) (k := 3) dX4_advanceSum_52 xcl9 (by decide) xw_212 rfl hf (fun x5 ex5 hf => ?_)
      refine xm_iload_n dX4_advanceSum_55 rfl ?_
      refine xb_iald dX4_advanceSum_56 hf (fun x6 ex6 hf => ?_)
      refine xm_iconst dX4_advanceSum_57 (v := 4) (by decide) ?_
      refine xb_icmp_eq 73 dX4_advanceSum_58 (by decide) hf (fun c hf => ?_) (fun c hf => ?_)
      · refine xm_aload_n dX4_advanceSum_73 rfl ?_
        refine xb_getR (a := l2) (c := 9) (k := 0) dX4_advanceSum_74 xcl9 (by decide) xw_196 rfl hf (fun x7 ex7 hf => ?_)
        refine xm_aload_n dX4_advanceSum_77 rfl ?_
        refine xm_iload_n dX4_advanceSum_78 rfl ?_
        refine xm_iconst dX4_advanceSum_79 (v := 0) (by decide) ?_
        refine xb_if hf (fun hb hf => ?_) (fun _ q => nomatch q)
        obtain ⟨p8, ep8, hf⟩ := xbind hf
        refine xb_callV (As := [.int l3, .int (0 : Int32)]) (v0 := (some (.int p8))) (τ0 := p4.2) dX4_advanceSum_80 (xc_X9_child _ _) xcl9 xw_1017 xw_1018 xw_1019 hb rfl (Nat.le_of_ble_eq_true rfl) rfl (Nat.le_of_ble_eq_true rfl) (fun Q1 hq => m_X9_child (d := d + 2) ep8 (fun g hg => by subst hg; exact hq)) ?_
        refine xb_iald dX4_advanceSum_83 hf (fun x9 ex9 hf => ?_)
        refine xm_iconst dX4_advanceSum_84 (v := 1) (by decide) ?_
        refine xb_icmp_eq 91 dX4_advanceSum_85 (by decide) hf (fun c hf => ?_) (fun c hf => ?_)
        · refine xm_aload_n dX4_advanceSum_91 rfl ?_
          refine xb_getR (a := l0) (c := 4) (k := 9) dX4_advanceSum_92 xcl4 (by decide) xw_430 rfl hf (fun x10 ex10 hf => ?_)
          refine xm_iload_n dX4_advanceSum_95 rfl ?_
          refine xm_iconst dX4_advanceSum_96 (v := 1) (by decide) ?_
          refine xb_iast dX4_advanceSum_97 hf (fun σ11 eσ11 hf => ?_)
          refine xm_aload_n dX4_advanceSum_98 rfl ?_
          refine xm_iload_n dX4_advanceSum_99 rfl ?_
          refine xm_aload_n dX4_advanceSum_100 rfl ?_
          refine xm_iload_n dX4_advanceSum_101 rfl ?_
          refine xb_if hf (fun hb hf => ?_) (fun _ q => nomatch q)
          obtain ⟨p12, ep12, hf⟩ := xbind hf
          refine xb_callV (As := [.int l1, .ref l2, .int l3]) (v0 := (some (.int p12.1))) (τ0 := p12.2) dX4_advanceSum_102 (xc_X4_nextOperand _ _) xcl4 xw_1013 xw_1015 xs_29 hb rfl (Nat.le_of_ble_eq_true rfl) rfl (Nat.le_of_ble_eq_true rfl) (fun Q1 hq => m_X4_nextOperand (d := d + 1) ep12 (fun g hg => by subst hg; exact hq)) ?_
          cases hf
          exact xm_iret dX4_advanceSum_105 rfl (hR _ rfl)
        · refine xm_bipush dX4_advanceSum_88 (v := 10) (by decide) ?_
          cases hf
          exact xm_iret dX4_advanceSum_90 rfl (hR _ rfl)
      · exact xm_sub [0] rfl (L_X4_advanceSum_j61 p4.2 p4.1 hf hR)
  refine xb_if hf (fun c hf => ?_) (fun n1 hf => ?_)
  · refine xm_tableIn 139 dX4_advanceSum_6 (by rw [c]; decide) (by rw [c]; decide) (by rw [c]; rfl) (by decide) ?_
    exact xm_sub [0, 1] rfl (L_X4_advanceSum_j139 σ l0 l1 hf hR)
  refine xb_if hf (fun c hf => ?_) (fun n2 hf => ?_)
  · refine xm_tableIn 106 dX4_advanceSum_6 (by rw [c]; decide) (by rw [c]; decide) (by rw [c]; rfl) (by decide) ?_
    refine xm_aload_n dX4_advanceSum_106 rfl ?_
    refine xm_iload_n dX4_advanceSum_107 rfl ?_
    refine xm_aload_n dX4_advanceSum_108 rfl ?_
    refine xm_iload_n dX4_advanceSum_109 rfl ?_
    refine xb_if hf (fun hb hf => ?_) (fun _ q => nomatch q)
    obtain ⟨p13, ep13, hf⟩ := xbind hf
    refine xb_callV (As := [.int l1, .ref l2, .int l3]) (v0 := (some (.int p13.1))) (τ0 := p13.2) dX4_advanceSum_110 (xc_X4_nextOperand _ _) xcl4 xw_1013 xw_1015 xs_29 hb rfl (Nat.le_of_ble_eq_true rfl) rfl (Nat.le_of_ble_eq_true rfl) (fun Q1 hq => m_X4_nextOperand (d := d + 1) ep13 (fun g hg => by subst hg; exact hq)) ?_
    cases hf
    exact xm_iret dX4_advanceSum_113 rfl (hR _ rfl)
  refine xb_if hf (fun c hf => ?_) (fun n3 hf => ?_)
  · refine xm_tableIn 114 dX4_advanceSum_6 (by rw [c]; decide) (by rw [c]; decide) (by rw [c]; rfl) (by decide) ?_
    refine xm_aload_n dX4_advanceSum_114 rfl ?_
    refine xm_iload_n dX4_advanceSum_115 rfl ?_
    refine xm_aload_n dX4_advanceSum_116 rfl ?_
    refine xb_getR (a := l2) (c := 9) (k := 1) dX4_advanceSum_117 xcl9 (by decide) xw_202 rfl hf (fun x14 ex14 hf => ?_)
    refine xm_aload_n dX4_advanceSum_120 rfl ?_
    refine xm_iload_n dX4_advanceSum_121 rfl ?_
    refine xm_iconst dX4_advanceSum_122 (v := 0) (by decide) ?_
    refine xb_if hf (fun hb hf => ?_) (fun _ q => nomatch q)
    obtain ⟨p15, ep15, hf⟩ := xbind hf
    refine xb_callV (As := [.int l3, .int (0 : Int32)]) (v0 := (some (.int p15))) (τ0 := σ) dX4_advanceSum_123 (xc_X9_child _ _) xcl9 xw_1017 xw_1018 xw_1019 hb rfl (Nat.le_of_ble_eq_true rfl) rfl (Nat.le_of_ble_eq_true rfl) (fun Q1 hq => m_X9_child (d := d + 2) ep15 (fun g hg => by subst hg; exact hq)) ?_
    refine xb_iald dX4_advanceSum_126 hf (fun x16 ex16 hf => ?_)
    refine xb_if hf (fun hb hf => ?_) (fun _ q => nomatch q)
    obtain ⟨p17, ep17, hf⟩ := xbind hf
    refine xb_callV (As := [.int l1, .int x16]) (v0 := (some (.int p17.1))) (τ0 := p17.2) dX4_advanceSum_127 (xc_X4_openSum _ _) xcl4 xw_1025 xw_1027 xs_31 hb rfl (Nat.le_of_ble_eq_true rfl) rfl (Nat.le_of_ble_eq_true rfl) (fun Q1 hq => m_X4_openSum (d := d + 0) ep17 (fun g hg => by subst hg; exact hq)) ?_
    cases hf
    exact xm_iret dX4_advanceSum_130 rfl (hR _ rfl)
  refine xb_if hf (fun c hf => ?_) (fun n4 hf => ?_)
  · refine xm_tableIn 131 dX4_advanceSum_6 (by rw [c]; decide) (by rw [c]; decide) (by rw [c]; rfl) (by decide) ?_
    refine xm_aload_n dX4_advanceSum_131 rfl ?_
    refine xm_iload_n dX4_advanceSum_132 rfl ?_
    refine xm_aload_n dX4_advanceSum_133 rfl ?_
    refine xm_iload_n dX4_advanceSum_134 rfl ?_
    refine xb_if hf (fun hb hf => ?_) (fun _ q => nomatch q)
    obtain ⟨p18, ep18, hf⟩ := xbind hf
    refine xb_callV (As := [.int l1, .ref l2, .int l3]) (v0 := (some (.int p18.1))) (τ0 := p18.2) dX4_advanceSum_135 (xc_X4_nextOfSum _ _) xcl4 xw_1073 xw_1075 xs_34 hb rfl (Nat.le_of_ble_eq_true rfl) rfl (Nat.le_of_ble_eq_true rfl) (fun Q1 hq => m_X4_nextOfSum (d := d + 0) ep18 (fun g hg => by subst hg; exact hq)) ?_
    cases hf
    exact xm_iret dX4_advanceSum_138 rfl (hR _ rfl)
  refine xm_tableOut 139 dX4_advanceSum_6 (by have q0 := lv_neT (a := 0) n0 (by decide); have q1 := lv_neT (a := 1) n1 (by decide); have q2 := lv_neT (a := 2) n2 (by decide); have q3 := lv_neT (a := 3) n3 (by decide); have q4 := lv_neT (a := 4) n4 (by decide); omega) (by decide) ?_
  exact xm_sub [0, 1] rfl (L_X4_advanceSum_j139 σ l0 l1 hf hR)
-- Rankwise$Machine.giveName(II)I
def f_X4_giveName_j146 (σ : xM) (l0 : Nat) (l1 : Int32) (l3 : Option Nat) (l4 : Int32) (l5 : Int32) : Option ((Int32 × xM) ⊕ ((Nat × Int32 × (Option Nat)) ⊕ (Nat × Int32 × (Option Nat) × Int32 × Int32))) :=
  (gR σ l0 4 17).bind (fun x13 => (aI σ x13 14 l4).bind (fun x14 => xlet (l5 + (1 : Int32)) (fun v15 => some (Sum.inr (Sum.inr (l0, l1, l3, x14, v15))))))
set_option maxHeartbeats 4000000 in
set_option maxRecDepth 20000 in
theorem L_X4_giveName_j146 {G : xG} {π : Nat → Nat} {d C Z : Nat} {Q : xQ} (σ : xM) (l0 : Nat) (l1 : Int32) (l3 : Option Nat) (l4 : Int32) (l5 : Int32) {x : ((Int32 × xM) ⊕ ((Nat × Int32 × (Option Nat)) ⊕ (Nat × Int32 × (Option Nat) × Int32 × Int32)))} (hf : f_X4_giveName_j146 σ l0 l1 l3 l4 l5 = some x) (hR : ∀ g, x = Sum.inl (g) → Q (.inl (some (.int g.1))) (g.2) π) (hE : ∀ e : (Nat × Int32 × (Option Nat)), x = Sum.inr (Sum.inl e) → xMach G π J_X4_giveName (d + 3) C Z 161 [(0, .ref e.1), (1, .int e.2.1), (3, va_rf e.2.2)] [] σ Q) (hC : ∀ e : (Nat × Int32 × (Option Nat) × Int32 × Int32), x = Sum.inr (Sum.inr e) → xMach G π J_X4_giveName (d + 3) C Z 8 [(0, .ref e.1), (1, .int e.2.1), (3, va_rf e.2.2.1), (4, .int e.2.2.2.1), (5, .int e.2.2.2.2)] [] σ Q) : xMach G π J_X4_giveName (d + 3) C Z 146 [(0, .ref l0), (1, .int l1), (3, va_rf l3), (4, .int l4), (5, .int l5)] [] σ Q := by
  unfold f_X4_giveName_j146 at hf
  refine xm_aload_n dX4_giveName_146 rfl ?_
  refine xb_getR (a := l0) (c := 4) (k := 17) dX4_giveName_147 xcl4 (by decide) xw_438 rfl hf (fun x13 ex13 hf => ?_)
  refine xm_iload dX4_giveName_150 rfl ?_
  refine xb_iald dX4_giveName_152 hf (fun x14 ex14 hf => ?_)
  refine xm_istore dX4_giveName_153 (by decide) (xm_stL (L' := [(4, .int x14), (0, .ref l0), (1, .int l1), (3, va_rf l3), (5, .int l5)]) (by cases l3 <;> rfl) ?_)
  refine xb_iinc dX4_giveName_155 rfl (by decide) (by decide) hf (fun v15 ev15 hf => xm_stL (L' := [(5, .int v15), (4, .int x14), (0, .ref l0), (1, .int l1), (3, va_rf l3)]) rfl ?_)
  refine xm_goto 8 dX4_giveName_158 (by decide) ?_
  cases hf
  exact xm_sub [2, 3, 4, 1, 0] rfl (hC _ rfl)
def f_X4_giveName_j100 (σ : xM) (l0 : Nat) (l1 : Int32) (l3 : Option Nat) (l4 : Int32) (l5 : Int32) (l6 : Int32) (s0 : Int32) : Option ((Int32 × xM) ⊕ ((Nat × Int32 × (Option Nat)) ⊕ (Nat × Int32 × (Option Nat) × Int32 × Int32))) :=
  (gR σ l0 4 16).bind (fun x10 => (aI σ x10 14 l4).bind (fun x11 => xlet (x11 + l6) (fun v12 => (if l6 < (0 : Int32) then f_X4_giveName_j146 σ l0 l1 l3 l4 l5 else (if s0 = (0 : Int32) then f_X4_giveName_j146 σ l0 l1 l3 l4 l5 else (if v12 < (0 : Int32) then f_X4_giveName_j146 σ l0 l1 l3 l4 l5 else (gI σ l0 4 3).bind (fun x16 => (if x16 ≤ v12 then f_X4_giveName_j146 σ l0 l1 l3 l4 l5 else (gR σ l0 4 2).bind (fun x17 => ((aR σ x17 16 v12).bind id).bind (fun x18 => f_X4_giveName_j146 σ l0 l1 (some x18) l4 l5))))))))))
set_option maxHeartbeats 4000000 in
set_option maxRecDepth 20000 in
theorem L_X4_giveName_j100 {G : xG} {π : Nat → Nat} {d C Z : Nat} {Q : xQ} (σ : xM) (l0 : Nat) (l1 : Int32) (l3 : Option Nat) (l4 : Int32) (l5 : Int32) (l6 : Int32) (s0 : Int32) {x : ((Int32 × xM) ⊕ ((Nat × Int32 × (Option Nat)) ⊕ (Nat × Int32 × (Option Nat) × Int32 × Int32)))} (hf : f_X4_giveName_j100 σ l0 l1 l3 l4 l5 l6 s0 = some x) (hR : ∀ g, x = Sum.inl (g) → Q (.inl (some (.int g.1))) (g.2) π) (hE : ∀ e : (Nat × Int32 × (Option Nat)), x = Sum.inr (Sum.inl e) → xMach G π J_X4_giveName (d + 3) C Z 161 [(0, .ref e.1), (1, .int e.2.1), (3, va_rf e.2.2)] [] σ Q) (hC : ∀ e : (Nat × Int32 × (Option Nat) × Int32 × Int32), x = Sum.inr (Sum.inr e) → xMach G π J_X4_giveName (d + 3) C Z 8 [(0, .ref e.1), (1, .int e.2.1), (3, va_rf e.2.2.1), (4, .int e.2.2.2.1), (5, .int e.2.2.2.2)] [] σ Q) : xMach G π J_X4_giveName (d + 3) C Z 100 [(0, .ref l0), (1, .int l1), (3, va_rf l3), (4, .int l4), (5, .int l5), (6, .int l6)] [.int s0] σ Q := by
  unfold f_X4_giveName_j100 at hf
  refine xm_istore dX4_giveName_100 (by decide) (xm_stL (L' := [(7, .int s0), (0, .ref l0), (1, .int l1), (3, va_rf l3), (4, .int l4), (5, .int l5), (6, .int l6)]) (by cases l3 <;> rfl) ?_)
  refine xm_aload_n dX4_giveName_102 rfl ?_
  refine xb_getR (a := l0) (c := 4) (k := 16) dX4_giveName_103 xcl4 (by decide) xw_437 rfl hf (fun x10 ex10 hf => ?_)
  refine xm_iload dX4_giveName_106 rfl ?_
  refine xb_iald dX4_giveName_108 hf (fun x11 ex11 hf => ?_)
  refine xm_iload dX4_giveName_109 rfl ?_
  refine xm_iadd dX4_giveName_111 ?_
  refine xb_topi hf (fun v12 ev12 hf => ?_)
  refine xm_istore dX4_giveName_112 (by decide) (xm_stL (L' := [(8, .int v12), (7, .int s0), (0, .ref l0), (1, .int l1), (3, va_rf l3), (4, .int l4), (5, .int l5), (6, .int l6)]) (by cases l3 <;> rfl) ?_)
  refine xm_iload dX4_giveName_114 rfl ?_
  refine xb_if_lt 146 dX4_giveName_116 (by decide) hf (fun c hf => ?_) (fun c hf => ?_)
  · exact xm_sub [2, 3, 4, 5, 6] rfl (L_X4_giveName_j146 σ l0 l1 l3 l4 l5 hf hR hE hC)
  · refine xm_iload dX4_giveName_119 rfl ?_
    refine xb_if_eq 146 dX4_giveName_121 (by decide) hf (fun c hf => ?_) (fun c hf => ?_)
    · exact xm_sub [2, 3, 4, 5, 6] rfl (L_X4_giveName_j146 σ l0 l1 l3 l4 l5 hf hR hE hC)
    · refine xm_iload dX4_giveName_124 rfl ?_
      refine xb_if_lt 146 dX4_giveName_126 (by decide) hf (fun c hf => ?_) (fun c hf => ?_)
      · exact xm_sub [2, 3, 4, 5, 6] rfl (L_X4_giveName_j146 σ l0 l1 l3 l4 l5 hf hR hE hC)
      · refine xm_iload dX4_giveName_129 rfl ?_
        refine xm_aload_n dX4_giveName_131 rfl ?_
        refine xb_getI (a := l0) (c := 4) (k := 3) dX4_giveName_132 xcl4 (by decide) xw_424 rfl hf (fun x16 ex16 hf => ?_)
        refine xb_icmp_ge 146 dX4_giveName_135 (by decide) hf (fun c hf => ?_) (fun c hf => ?_)
        · exact xm_sub [2, 3, 4, 5, 6] rfl (L_X4_giveName_j146 σ l0 l1 l3 l4 l5 hf hR hE hC)
        · refine xm_aload_n dX4_giveName_138 rfl ?_
          refine xb_getR (a := l0) (c := 4) (k := 2) dX4_giveName_139 xcl4 (by decide) xw_423 rfl hf (fun x17 ex17 hf => ?_)
          refine xm_iload dX4_giveName_142 rfl ?_
          refine xb_aaldS dX4_giveName_144 (by decide) hf (fun x18 ex18 hf => ?_)
          refine xm_astore_n dX4_giveName_145 (by decide) (xm_stL (L' := [(3, .ref x18), (8, .int v12), (7, .int s0), (0, .ref l0), (1, .int l1), (4, .int l4), (5, .int l5), (6, .int l6)]) rfl ?_)
          exact xm_sub [3, 4, 0, 5, 6] rfl (L_X4_giveName_j146 σ l0 l1 (some x18) l4 l5 hf hR hE hC)
def f_X4_giveName_j52 (σ : xM) (l0 : Nat) (l1 : Int32) (l3 : Option Nat) (l4 : Int32) (l5 : Int32) (s0 : Int32) : Option ((Int32 × xM) ⊕ ((Nat × Int32 × (Option Nat)) ⊕ (Nat × Int32 × (Option Nat) × Int32 × Int32))) :=
  (gR σ l0 4 14).bind (fun x6 => (aI σ x6 14 l4).bind (fun x7 => (if x7 = (0 : Int32) then (gR σ l0 4 15).bind (fun x19 => (aI σ x19 14 l4).bind (fun x20 => (if x20 ≤ s0 then f_X4_giveName_j100 σ l0 l1 l3 l4 l5 s0 (0 : Int32) else f_X4_giveName_j100 σ l0 l1 l3 l4 l5 s0 (1 : Int32)))) else (gR σ l0 4 14).bind (fun x8 => (aI σ x8 14 l4).bind (fun x9 => (if x9 = l1 then f_X4_giveName_j100 σ l0 l1 l3 l4 l5 s0 (1 : Int32) else f_X4_giveName_j100 σ l0 l1 l3 l4 l5 s0 (0 : Int32)))))))
set_option maxHeartbeats 4000000 in
set_option maxRecDepth 20000 in
theorem L_X4_giveName_j52 {G : xG} {π : Nat → Nat} {d C Z : Nat} {Q : xQ} (σ : xM) (l0 : Nat) (l1 : Int32) (l3 : Option Nat) (l4 : Int32) (l5 : Int32) (s0 : Int32) {x : ((Int32 × xM) ⊕ ((Nat × Int32 × (Option Nat)) ⊕ (Nat × Int32 × (Option Nat) × Int32 × Int32)))} (hf : f_X4_giveName_j52 σ l0 l1 l3 l4 l5 s0 = some x) (hR : ∀ g, x = Sum.inl (g) → Q (.inl (some (.int g.1))) (g.2) π) (hE : ∀ e : (Nat × Int32 × (Option Nat)), x = Sum.inr (Sum.inl e) → xMach G π J_X4_giveName (d + 3) C Z 161 [(0, .ref e.1), (1, .int e.2.1), (3, va_rf e.2.2)] [] σ Q) (hC : ∀ e : (Nat × Int32 × (Option Nat) × Int32 × Int32), x = Sum.inr (Sum.inr e) → xMach G π J_X4_giveName (d + 3) C Z 8 [(0, .ref e.1), (1, .int e.2.1), (3, va_rf e.2.2.1), (4, .int e.2.2.2.1), (5, .int e.2.2.2.2)] [] σ Q) : xMach G π J_X4_giveName (d + 3) C Z 52 [(0, .ref l0), (1, .int l1), (3, va_rf l3), (4, .int l4), (5, .int l5)] [.int s0] σ Q := by
  unfold f_X4_giveName_j52 at hf
  refine xm_istore dX4_giveName_52 (by decide) (xm_stL (L' := [(6, .int s0), (0, .ref l0), (1, .int l1), (3, va_rf l3), (4, .int l4), (5, .int l5)]) (by cases l3 <;> rfl) ?_)
  refine xm_aload_n dX4_giveName_54 rfl ?_
  refine xb_getR (a := l0) (c := 4) (k := 14) dX4_giveName_55 xcl4 (by decide) xw_435 rfl hf (fun x6 ex6 hf => ?_)
  refine xm_iload dX4_giveName_58 rfl ?_
  refine xb_iald dX4_giveName_60 hf (fun x7 ex7 hf => ?_)
  refine xb_if_ne 84 dX4_giveName_61 (by decide) hf (fun c hf => ?_) (fun c hf => ?_)
  · refine xm_aload_n dX4_giveName_84 rfl ?_
    refine xb_getR (a := l0) (c := 4) (k := 14) dX4_giveName_85 xcl4 (by decide) xw_435 rfl hf (fun x8 ex8 hf => ?_)
    refine xm_iload dX4_giveName_88 rfl ?_
    refine xb_iald dX4_giveName_90 hf (fun x9 ex9 hf => ?_)
    refine xm_iload_n dX4_giveName_91 rfl ?_
    refine xb_icmp_ne 99 dX4_giveName_92 (by decide) hf (fun c hf => ?_) (fun c hf => ?_)
    · refine xm_iconst dX4_giveName_99 (v := 0) (by decide) ?_
      exact xm_sub [1, 2, 3, 4, 5, 0] rfl (L_X4_giveName_j100 σ l0 l1 l3 l4 l5 s0 (0 : Int32) hf hR hE hC)
    · refine xm_iconst dX4_giveName_95 (v := 1) (by decide) ?_
      refine xm_goto 100 dX4_giveName_96 (by decide) ?_
      exact xm_sub [1, 2, 3, 4, 5, 0] rfl (L_X4_giveName_j100 σ l0 l1 l3 l4 l5 s0 (1 : Int32) hf hR hE hC)
  · refine xm_iload dX4_giveName_64 rfl ?_
    refine xm_aload_n dX4_giveName_66 rfl ?_
    refine xb_getR (a := l0) (c := 4) (k := 15) dX4_giveName_67 xcl4 (by decide) xw_436 rfl hf (fun x19 ex19 hf => ?_)
    refine xm_iload dX4_giveName_70 rfl ?_
    refine xb_iald dX4_giveName_72 hf (fun x20 ex20 hf => ?_)
    refine xb_icmp_ge 80 dX4_giveName_73 (by decide) hf (fun c hf => ?_) (fun c hf => ?_)
    · refine xm_iconst dX4_giveName_80 (v := 0) (by decide) ?_
      refine xm_goto 100 dX4_giveName_81 (by decide) ?_
      exact xm_sub [1, 2, 3, 4, 5, 0] rfl (L_X4_giveName_j100 σ l0 l1 l3 l4 l5 s0 (0 : Int32) hf hR hE hC)
    · refine xm_iconst dX4_giveName_76 (v := 1) (by decide) ?_
      refine xm_goto 100 dX4_giveName_77 (by decide) ?_
      exact xm_sub [1, 2, 3, 4, 5, 0] rfl (L_X4_giveName_j100 σ l0 l1 l3 l4 l5 s0 (1 : Int32) hf hR hE hC)
def f_X4_giveName_s8 (σ : xM) (s : (Nat × Int32 × (Option Nat) × Int32 × Int32)) : Option ((Int32 × xM) ⊕ ((Nat × Int32 × (Option Nat)) ⊕ (Nat × Int32 × (Option Nat) × Int32 × Int32))) :=
  xlet s.1 (fun l0 => xlet s.2.1 (fun l1 => xlet s.2.2.1 (fun l3 => xlet s.2.2.2.1 (fun l4 => xlet s.2.2.2.2 (fun l5 => (if (240 : Int32) ≤ l5 then some (Sum.inr (Sum.inl (l0, l1, l3))) else (if l4 < (0 : Int32) then some (Sum.inr (Sum.inl (l0, l1, l3))) else (gI σ l0 4 18).bind (fun x2 => (if x2 ≤ l4 then some (Sum.inr (Sum.inl (l0, l1, l3))) else (Option.elim l3 ((gR σ l0 4 14).bind (fun x4 => (aI σ x4 14 l4).bind (fun x5 => (if x5 = (0 : Int32) then f_X4_giveName_j52 σ l0 l1 none l4 l5 (l1 - (120 : Int32)) else f_X4_giveName_j52 σ l0 l1 none l4 l5 (0 : Int32))))) (fun a3 => some (Sum.inr (Sum.inl (l0, l1, (some a3)))))))))))))))
set_option maxHeartbeats 4000000 in
set_option maxRecDepth 20000 in
theorem L_X4_giveName_s8 {G : xG} {π : Nat → Nat} {d C Z : Nat} {Q : xQ} (σ : xM) (l0 : Nat) (l1 : Int32) (l3 : Option Nat) (l4 : Int32) (l5 : Int32) {x : ((Int32 × xM) ⊕ ((Nat × Int32 × (Option Nat)) ⊕ (Nat × Int32 × (Option Nat) × Int32 × Int32)))} (hf : f_X4_giveName_s8 σ (l0, l1, l3, l4, l5) = some x) (hR : ∀ g, x = Sum.inl (g) → Q (.inl (some (.int g.1))) (g.2) π) (hE : ∀ e : (Nat × Int32 × (Option Nat)), x = Sum.inr (Sum.inl e) → xMach G π J_X4_giveName (d + 3) C Z 161 [(0, .ref e.1), (1, .int e.2.1), (3, va_rf e.2.2)] [] σ Q) (hC : ∀ e : (Nat × Int32 × (Option Nat) × Int32 × Int32), x = Sum.inr (Sum.inr e) → xMach G π J_X4_giveName (d + 3) C Z 8 [(0, .ref e.1), (1, .int e.2.1), (3, va_rf e.2.2.1), (4, .int e.2.2.2.1), (5, .int e.2.2.2.2)] [] σ Q) : xMach G π J_X4_giveName (d + 3) C Z 8 [(0, .ref l0), (1, .int l1), (3, va_rf l3), (4, .int l4), (5, .int l5)] [] σ Q := by
  have hf : (if (240 : Int32) ≤ l5 then some (Sum.inr (Sum.inl (l0, l1, l3))) else (if l4 < (0 : Int32) then some (Sum.inr (Sum.inl (l0, l1, l3))) else (gI σ l0 4 18).bind (fun x2 => (if x2 ≤ l4 then some (Sum.inr (Sum.inl (l0, l1, l3))) else (Option.elim l3 ((gR σ l0 4 14).bind (fun x4 => (aI σ x4 14 l4).bind (fun x5 => (if x5 = (0 : Int32) then f_X4_giveName_j52 σ l0 l1 none l4 l5 (l1 - (120 : Int32)) else f_X4_giveName_j52 σ l0 l1 none l4 l5 (0 : Int32))))) (fun a3 => some (Sum.inr (Sum.inl (l0, l1, (some a3)))))))))) = some x := hf
  refine xm_iload dX4_giveName_8 rfl ?_
  refine xm_sipush dX4_giveName_10 (v := 240) (by decide) ?_
  refine xb_icmp_ge 161 dX4_giveName_13 (by decide) hf (fun c hf => ?_) (fun c hf => ?_)
  · cases hf
    exact xm_sub [0, 1, 2] rfl (hE _ rfl)
  · refine xm_iload dX4_giveName_16 rfl ?_
    refine xb_if_lt 161 dX4_giveName_18 (by decide) hf (fun c hf => ?_) (fun c hf => ?_)
    · cases hf
      exact xm_sub [0, 1, 2] rfl (hE _ rfl)
    · refine xm_iload dX4_giveName_21 rfl ?_
      refine xm_aload_n dX4_giveName_23 rfl ?_
      refine xb_getI (a := l0) (c := 4) (k := 18) dX4_giveName_24 xcl4 (by decide) xw_439 rfl hf (fun x2 ex2 hf => ?_)
      refine xb_icmp_ge 161 dX4_giveName_27 (by decide) hf (fun c hf => ?_) (fun c hf => ?_)
      · cases hf
        exact xm_sub [0, 1, 2] rfl (hE _ rfl)
      · refine xm_aloadQ_n dX4_giveName_30 rfl ?_
        refine xb_ifnonnullQ 161 dX4_giveName_31 (by decide) hf (fun c hf => ?_) (fun a3 c hf => ?_)
        · subst c
          refine xm_aload_n dX4_giveName_34 rfl ?_
          refine xb_getR (a := l0) (c := 4) (k := 14) dX4_giveName_35 xcl4 (by decide) xw_435 rfl hf (fun x4 ex4 hf => ?_)
          refine xm_iload dX4_giveName_38 rfl ?_
          refine xb_iald dX4_giveName_40 hf (fun x5 ex5 hf => ?_)
          refine xb_if_ne 51 dX4_giveName_41 (by decide) hf (fun c hf => ?_) (fun c hf => ?_)
          · refine xm_iconst dX4_giveName_51 (v := 0) (by decide) ?_
            exact xm_sub [0, 1, 2, 3, 4] rfl (L_X4_giveName_j52 σ l0 l1 none l4 l5 (0 : Int32) hf hR hE hC)
          · refine xm_iload_n dX4_giveName_44 rfl ?_
            refine xm_bipush dX4_giveName_45 (v := 120) (by decide) ?_
            refine xm_isub dX4_giveName_47 ?_
            refine xm_goto 52 dX4_giveName_48 (by decide) ?_
            exact xm_sub [0, 1, 2, 3, 4] rfl (L_X4_giveName_j52 σ l0 l1 none l4 l5 (l1 - (120 : Int32)) hf hR hE hC)
        · subst c
          cases hf
          exact xm_sub [0, 1, 2] rfl (hE _ rfl)
theorem L_X4_giveName_l8 {G : xG} {π : Nat → Nat} {d C Z : Nat} {Q : xQ} (σ : xM) {s0 : (Nat × Int32 × (Option Nat) × Int32 × Int32)} {x : ((Int32 × xM) ⊕ (Nat × Int32 × (Option Nat)))} (h1 : xloop (f_X4_giveName_s8 σ) xF s0 = some x) (hR : ∀ g, x = Sum.inl g → Q (.inl (some (.int g.1))) (g.2) π) (hE : ∀ e : (Nat × Int32 × (Option Nat)), x = Sum.inr e → xMach G π J_X4_giveName (d + 3) C Z 161 [(0, .ref e.1), (1, .int e.2.1), (3, va_rf e.2.2)] [] σ Q) : xMach G π J_X4_giveName (d + 3) C Z 8 [(0, .ref s0.1), (1, .int s0.2.1), (3, va_rf s0.2.2.1), (4, .int s0.2.2.2.1), (5, .int s0.2.2.2.2)] [] σ Q := by
  refine xloop_run (M := (fun s : (Nat × Int32 × (Option Nat) × Int32 × Int32) => xMach G π J_X4_giveName (d + 3) C Z 8 [(0, .ref s.1), (1, .int s.2.1), (3, va_rf s.2.2.1), (4, .int s.2.2.2.1), (5, .int s.2.2.2.2)] [] σ Q)) (r := x) ?_ xF _ h1
  intro s y hs hx
  exact L_X4_giveName_s8 σ s.1 s.2.1 s.2.2.1 s.2.2.2.1 s.2.2.2.2 (x := y) hs (fun g hg => by subst hg; exact hR g hx) (fun e he => by subst he; exact hE e hx) (fun e he => by subst he; exact hx)
def f_X4_giveName_j213 (σ : xM) (l0 : Nat) (l3 : Option Nat) : Option (Int32 × xM) :=
  (Option.elim l3 (some ((4 : Int32), σ)) (fun a23 => (gR σ l0 4 2).bind (fun x24 => (gI σ l0 4 3).bind (fun x25 => ((aR σ x24 16 x25).bind id).bind (fun x26 => (if xk σ x26 2 = true then (f_X2_copy σ x26 a23).bind (fun p27 => (gI p27 l0 4 3).bind (fun x28 => (sI p27 l0 4 3 (x28 + (1 : Int32))).bind (fun σ29 => some ((0 : Int32), σ29)))) else none))))))
set_option maxHeartbeats 4000000 in
set_option maxRecDepth 20000 in
theorem L_X4_giveName_j213 {G : xG} {π : Nat → Nat} {d C Z : Nat} {Q : xQ} (σ : xM) (l0 : Nat) (l3 : Option Nat) {x : (Int32 × xM)} (hf : f_X4_giveName_j213 σ l0 l3 = some x) (hR : ∀ g, x = g → Q (.inl (some (.int g.1))) (g.2) π) : xMach G π J_X4_giveName (d + 3) C Z 213 [(0, .ref l0), (3, va_rf l3)] [] σ Q := by
  unfold f_X4_giveName_j213 at hf
  refine xm_aloadQ_n dX4_giveName_213 rfl ?_
  refine xb_ifnonnullQ 219 dX4_giveName_214 (by decide) hf (fun c hf => ?_) (fun a23 c hf => ?_)
  · subst c
    refine xm_iconst dX4_giveName_217 (v := 4) (by decide) ?_
    cases hf
    exact xm_iret dX4_giveName_218 rfl (hR _ rfl)
  · subst c
    refine xm_aload_n dX4_giveName_219 rfl ?_
    refine xb_getR (a := l0) (c := 4) (k := 2) dX4_giveName_220 xcl4 (by decide) xw_423 rfl hf (fun x24 ex24 hf => ?_)
    refine xm_aload_n dX4_giveName_223 rfl ?_
    refine xb_getI (a := l0) (c := 4) (k := 3) dX4_giveName_224 xcl4 (by decide) xw_424 rfl hf (fun x25 ex25 hf => ?_)
    refine xb_aaldS dX4_giveName_227 (by decide) hf (fun x26 ex26 hf => ?_)
    refine xm_aload_n dX4_giveName_228 rfl ?_
    refine xb_if hf (fun hb hf => ?_) (fun _ q => nomatch q)
    obtain ⟨p27, ep27, hf⟩ := xbind hf
    refine xb_callV (As := [.ref a23]) (v0 := none) (τ0 := p27) dX4_giveName_229 (xc_X2_copy _ _) xcl2 xw_964 xw_965 xw_966 hb rfl (Nat.le_of_ble_eq_true rfl) rfl (Nat.le_of_ble_eq_true rfl) (fun Q1 hq => m_X2_copy (d := d + 0) ep27 (fun g hg => by subst hg; exact hq)) ?_
    refine xm_aload_n dX4_giveName_232 rfl ?_
    refine xm_dup dX4_giveName_233 rfl ?_
    refine xb_getI (a := l0) (c := 4) (k := 3) dX4_giveName_234 xcl4 (by decide) xw_424 rfl hf (fun x28 ex28 hf => ?_)
    refine xm_iconst dX4_giveName_237 (v := 1) (by decide) ?_
    refine xm_iadd dX4_giveName_238 ?_
    refine xb_putI (a := l0) (c := 4) (k := 3) dX4_giveName_239 xcl4 (by decide) xw_424 rfl rfl hf (fun σ29 eσ29 hf => ?_)
    refine xm_iconst dX4_giveName_242 (v := 0) (by decide) ?_
    cases hf
    exact xm_iret dX4_giveName_243 rfl (hR _ rfl)
def f_X4_giveName_j161 (σ : xM) (l0 : Nat) (l1 : Int32) (l3 : Option Nat) : Option (Int32 × xM) :=
  xlet (l1 - (97 : Int32)) (fun v21 => (Option.elim l3 ((if v21 < (0 : Int32) then f_X4_giveName_j213 σ l0 none else (gR σ l0 4 0).bind (fun x30 => (gR σ x30 1 7).bind (fun x31 => (gL σ x31 15).bind (fun x32 => (if x32 ≤ v21 then f_X4_giveName_j213 σ l0 none else (gR σ l0 4 0).bind (fun x33 => (gR σ x33 1 7).bind (fun x34 => (aI σ x34 15 v21).bind (fun x35 => (if x35 = (0 : Int32) then f_X4_giveName_j213 σ l0 none else (gR σ l0 4 0).bind (fun x36 => (gR σ x36 1 6).bind (fun x37 => ((aR σ x37 16 v21).bind id).bind (fun x38 => f_X4_giveName_j213 σ l0 (some x38)))))))))))))) (fun a22 => f_X4_giveName_j213 σ l0 (some a22))))
set_option maxHeartbeats 4000000 in
set_option maxRecDepth 20000 in
theorem L_X4_giveName_j161 {G : xG} {π : Nat → Nat} {d C Z : Nat} {Q : xQ} (σ : xM) (l0 : Nat) (l1 : Int32) (l3 : Option Nat) {x : (Int32 × xM)} (hf : f_X4_giveName_j161 σ l0 l1 l3 = some x) (hR : ∀ g, x = g → Q (.inl (some (.int g.1))) (g.2) π) : xMach G π J_X4_giveName (d + 3) C Z 161 [(0, .ref l0), (1, .int l1), (3, va_rf l3)] [] σ Q := by
  unfold f_X4_giveName_j161 at hf
  refine xm_iload_n dX4_giveName_161 rfl ?_
  refine xm_bipush dX4_giveName_162 (v := 97) (by decide) ?_
  refine xm_isub dX4_giveName_164 ?_
  refine xb_topi hf (fun v21 ev21 hf => ?_)
  refine xm_istore dX4_giveName_165 (by decide) (xm_stL (L' := [(5, .int v21), (0, .ref l0), (1, .int l1), (3, va_rf l3)]) (by cases l3 <;> rfl) ?_)
  refine xm_aloadQ_n dX4_giveName_167 rfl ?_
  refine xb_ifnonnullQ 213 dX4_giveName_168 (by decide) hf (fun c hf => ?_) (fun a22 c hf => ?_)
  · subst c
    refine xm_iload dX4_giveName_171 rfl ?_
    refine xb_if_lt 213 dX4_giveName_173 (by decide) hf (fun c hf => ?_) (fun c hf => ?_)
    · exact xm_sub [1, 3] rfl (L_X4_giveName_j213 σ l0 none hf hR)
    · refine xm_iload dX4_giveName_176 rfl ?_
      refine xm_aload_n dX4_giveName_178 rfl ?_
      refine xb_getR (a := l0) (c := 4) (k := 0) dX4_giveName_179 xcl4 (by decide) xw_421 rfl hf (fun x30 ex30 hf => ?_)
      refine xb_getR (a := x30) (c := 1) (k := 7) dX4_giveName_182 xcl1 (by decide) xw_281 rfl hf (fun x31 ex31 hf => ?_)
      refine xb_alen dX4_giveName_185 (by decide) (by decide) hf (fun x32 ex32 hf => ?_)
      refine xb_icmp_ge 213 dX4_giveName_186 (by decide) hf (fun c hf => ?_) (fun c hf => ?_)
      · exact xm_sub [1, 3] rfl (L_X4_giveName_j213 σ l0 none hf hR)
      · refine xm_aload_n dX4_giveName_189 rfl ?_
        refine xb_getR (a := l0) (c := 4) (k := 0) dX4_giveName_190 xcl4 (by decide) xw_421 rfl hf (fun x33 ex33 hf => ?_)
        refine xb_getR (a := x33) (c := 1) (k := 7) dX4_giveName_193 xcl1 (by decide) xw_281 rfl hf (fun x34 ex34 hf => ?_)
        refine xm_iload dX4_giveName_196 rfl ?_
        refine xb_zald dX4_giveName_198 hf (fun x35 ex35 hf => ?_)
        refine xb_if_eq 213 dX4_giveName_199 (by decide) hf (fun c hf => ?_) (fun c hf => ?_)
        · exact xm_sub [1, 3] rfl (L_X4_giveName_j213 σ l0 none hf hR)
        · refine xm_aload_n dX4_giveName_202 rfl ?_
          refine xb_getR (a := l0) (c := 4) (k := 0) dX4_giveName_203 xcl4 (by decide) xw_421 rfl hf (fun x36 ex36 hf => ?_)
          refine xb_getR (a := x36) (c := 1) (k := 6) dX4_giveName_206 xcl1 (by decide) xw_278 rfl hf (fun x37 ex37 hf => ?_)
          refine xm_iload dX4_giveName_209 rfl ?_
          refine xb_aaldS dX4_giveName_211 (by decide) hf (fun x38 ex38 hf => ?_)
          refine xm_astore_n dX4_giveName_212 (by decide) (xm_stL (L' := [(3, .ref x38), (5, .int v21), (0, .ref l0), (1, .int l1)]) rfl ?_)
          exact xm_sub [2, 0] rfl (L_X4_giveName_j213 σ l0 (some x38) hf hR)
  · subst c
    exact xm_sub [1, 3] rfl (L_X4_giveName_j213 σ l0 (some a22) hf hR)
def f_X4_giveName (σ : xM) (l0 : Nat) (l1 : Int32) (l2 : Int32) : Option (Int32 × xM) :=
  xlet (0 : Int32) (fun v1 => (xloop (f_X4_giveName_s8 σ ) xF (l0, l1, none, l2, v1)).bind (Sum.elim (fun g => some g) (fun e => f_X4_giveName_j161 σ e.1 e.2.1 e.2.2)))
set_option maxHeartbeats 4000000 in
set_option maxRecDepth 20000 in
theorem m_X4_giveName {G : xG} {π : Nat → Nat} {d C Z : Nat} {Q : xQ} {σ : xM} {l0 : Nat} {l1 : Int32} {l2 : Int32} {x : (Int32 × xM)} (hf : f_X4_giveName σ l0 l1 l2 = some x) (hR : ∀ g, x = g → Q (.inl (some (.int g.1))) (g.2) π) : xMach G π J_X4_giveName (d + 3) C Z 0 (lv_args 0 [.ref l0, .int l1, .int l2]) [] σ Q := by
  unfold f_X4_giveName at hf
  refine xm_stL (L' := [(0, .ref l0), (1, .int l1), (2, .int l2)]) rfl ?_
  refine xm_null dX4_giveName_0 ?_
  refine xm_astoreQ_n (t := none) dX4_giveName_1 (by decide) (xm_stL (L' := [(3, va_rf none), (0, .ref l0), (1, .int l1), (2, .int l2)]) rfl ?_)
  refine xm_iload_n dX4_giveName_2 rfl ?_
  refine xm_istore dX4_giveName_3 (by decide) (xm_stL (L' := [(4, .int l2), (3, va_rf none), (0, .ref l0), (1, .int l1), (2, .int l2)]) rfl ?_)
  refine xm_iconst dX4_giveName_5 (v := 0) (by decide) ?_
  refine xb_topi hf (fun v1 ev1 hf => ?_)
  refine xm_istore dX4_giveName_6 (by decide) (xm_stL (L' := [(5, .int v1), (4, .int l2), (3, va_rf none), (0, .ref l0), (1, .int l1), (2, .int l2)]) rfl ?_)
  obtain ⟨o, h1, hf⟩ := xbind hf
  refine xm_sub [3, 4, 2, 1, 0] rfl (L_X4_giveName_l8 σ h1 (fun g hg => ?_) (fun e he => ?_))
  · subst hg
    cases hf
    exact hR _ rfl
  · subst he
    rw [Sum.elim_inr] at hf
    have hf : f_X4_giveName_j161 σ e.1 e.2.1 e.2.2 = some _ := hf
    exact xm_sub [0, 1, 2] rfl (L_X4_giveName_j161 σ e.1 e.2.1 e.2.2 hf hR)
-- Rankwise$Machine.openCall(II)I
def f_X4_openCall_j20 (σ : xM)  : Option (Int32 × xM) :=
  some ((5 : Int32), σ)
set_option maxHeartbeats 4000000 in
set_option maxRecDepth 20000 in
theorem L_X4_openCall_j20 {G : xG} {π : Nat → Nat} {d C Z : Nat} {Q : xQ} (σ : xM)  {x : (Int32 × xM)} (hf : f_X4_openCall_j20 σ = some x) (hR : ∀ g, x = g → Q (.inl (some (.int g.1))) (g.2) π) : xMach G π J_X4_openCall (d + 1) C Z 20 [] [] σ Q := by
  unfold f_X4_openCall_j20 at hf
  refine xm_iconst dX4_openCall_20 (v := 5) (by decide) ?_
  cases hf
  exact xm_iret dX4_openCall_21 rfl (hR _ rfl)
def f_X4_openCall (σ : xM) (l0 : Nat) (l1 : Int32) (l2 : Int32) : Option (Int32 × xM) :=
  (gR σ l0 4 0).bind (fun x1 => (if xk σ x1 1 = true then (f_X1_parametersOf σ x1 l1).bind (fun p2 => (if p2 = l2 then (gI σ l0 4 3).bind (fun x3 => (if l2 ≤ x3 then (gI σ l0 4 13).bind (fun x4 => (if x4 < (12 : Int32) then (gI σ l0 4 3).bind (fun x5 => (if xk σ l0 4 = true then (f_X4_openScope σ l0 (0 : Int32) l2 (x5 - l2) (-1 : Int32)).bind (fun p6 => (if p6.1 = (0 : Int32) then some ((9 : Int32), p6.2) else (gI p6.2 l0 4 13).bind (fun x7 => (sI p6.2 l0 4 13 (x7 + (1 : Int32))).bind (fun σ8 => (gI σ8 l0 4 18).bind (fun x9 => (if xk σ8 l0 4 = true then (f_X4_addTask σ8 l0 (3 : Int32) none l1 (x9 - (1 : Int32))).bind (fun p10 => some (p10.1, p10.2)) else none)))))) else none)) else some ((8 : Int32), σ))) else f_X4_openCall_j20 σ)) else f_X4_openCall_j20 σ)) else none))
set_option maxHeartbeats 4000000 in
set_option maxRecDepth 20000 in
theorem m_X4_openCall {G : xG} {π : Nat → Nat} {d C Z : Nat} {Q : xQ} {σ : xM} {l0 : Nat} {l1 : Int32} {l2 : Int32} {x : (Int32 × xM)} (hf : f_X4_openCall σ l0 l1 l2 = some x) (hR : ∀ g, x = g → Q (.inl (some (.int g.1))) (g.2) π) : xMach G π J_X4_openCall (d + 1) C Z 0 (lv_args 0 [.ref l0, .int l1, .int l2]) [] σ Q := by
  unfold f_X4_openCall at hf
  refine xm_stL (L' := [(0, .ref l0), (1, .int l1), (2, .int l2)]) rfl ?_
  refine xm_aload_n dX4_openCall_0 rfl ?_
  refine xb_getR (a := l0) (c := 4) (k := 0) dX4_openCall_1 xcl4 (by decide) xw_421 rfl hf (fun x1 ex1 hf => ?_)
  refine xm_iload_n dX4_openCall_4 rfl ?_
  refine xb_if hf (fun hb hf => ?_) (fun _ q => nomatch q)
  obtain ⟨p2, ep2, hf⟩ := xbind hf
  refine xb_callV (As := [.int l1]) (v0 := (some (.int p2))) (τ0 := σ) dX4_openCall_5 (xc_X1_parametersOf _ _) xcl1 xw_1147 xw_1148 xw_1149 hb rfl (Nat.le_of_ble_eq_true rfl) rfl (Nat.le_of_ble_eq_true rfl) (fun Q1 hq => m_X1_parametersOf (d := d + 0) ep2 (fun g hg => by subst hg; exact hq)) ?_
  refine xm_iload_n dX4_openCall_8 rfl ?_
  refine xb_icmp_ne 20 dX4_openCall_9 (by decide) hf (fun c hf => ?_) (fun c hf => ?_)
  · exact xm_sub [] rfl (L_X4_openCall_j20 σ hf hR)
  · refine xm_iload_n dX4_openCall_12 rfl ?_
    refine xm_aload_n dX4_openCall_13 rfl ?_
    refine xb_getI (a := l0) (c := 4) (k := 3) dX4_openCall_14 xcl4 (by decide) xw_424 rfl hf (fun x3 ex3 hf => ?_)
    refine xb_icmp_le 22 dX4_openCall_17 (by decide) hf (fun c hf => ?_) (fun c hf => ?_)
    · refine xm_aload_n dX4_openCall_22 rfl ?_
      refine xb_getI (a := l0) (c := 4) (k := 13) dX4_openCall_23 xcl4 (by decide) xw_434 rfl hf (fun x4 ex4 hf => ?_)
      refine xm_bipush dX4_openCall_26 (v := 12) (by decide) ?_
      refine xb_icmp_lt 34 dX4_openCall_28 (by decide) hf (fun c hf => ?_) (fun c hf => ?_)
      · refine xm_aload_n dX4_openCall_34 rfl ?_
        refine xm_iconst dX4_openCall_35 (v := 0) (by decide) ?_
        refine xm_iload_n dX4_openCall_36 rfl ?_
        refine xm_aload_n dX4_openCall_37 rfl ?_
        refine xb_getI (a := l0) (c := 4) (k := 3) dX4_openCall_38 xcl4 (by decide) xw_424 rfl hf (fun x5 ex5 hf => ?_)
        refine xm_iload_n dX4_openCall_41 rfl ?_
        refine xm_isub dX4_openCall_42 ?_
        refine xm_iconst dX4_openCall_43 (v := -1) (by decide) ?_
        refine xb_if hf (fun hb hf => ?_) (fun _ q => nomatch q)
        obtain ⟨p6, ep6, hf⟩ := xbind hf
        refine xb_callV (As := [.int (0 : Int32), .int l2, .int (x5 - l2), .int (-1 : Int32)]) (v0 := (some (.int p6.1))) (τ0 := p6.2) dX4_openCall_44 (xc_X4_openScope _ _) xcl4 xw_1065 xw_1067 xs_33 hb rfl (Nat.le_of_ble_eq_true rfl) rfl (Nat.le_of_ble_eq_true rfl) (fun Q1 hq => m_X4_openScope (d := d + 0) ep6 (fun g hg => by subst hg; exact hq)) ?_
        refine xb_if_ne 53 dX4_openCall_47 (by decide) hf (fun c hf => ?_) (fun c hf => ?_)
        · refine xm_aload_n dX4_openCall_53 rfl ?_
          refine xm_dup dX4_openCall_54 rfl ?_
          refine xb_getI (a := l0) (c := 4) (k := 13) dX4_openCall_55 xcl4 (by decide) xw_434 rfl hf (fun x7 ex7 hf => ?_)
          refine xm_iconst dX4_openCall_58 (v := 1) (by decide) ?_
          refine xm_iadd dX4_openCall_59 ?_
          refine xb_putI (a := l0) (c := 4) (k := 13) dX4_openCall_60 xcl4 (by decide) xw_434 rfl rfl hf (fun σ8 eσ8 hf => ?_)
          refine xm_aload_n dX4_openCall_63 rfl ?_
          refine xm_iconst dX4_openCall_64 (v := 3) (by decide) ?_
          refine xm_null dX4_openCall_65 ?_
          refine xm_iload_n dX4_openCall_66 rfl ?_
          refine xm_aload_n dX4_openCall_67 rfl ?_
          refine xb_getI (a := l0) (c := 4) (k := 18) dX4_openCall_68 xcl4 (by decide) xw_439 rfl hf (fun x9 ex9 hf => ?_)
          refine xm_iconst dX4_openCall_71 (v := 1) (by decide) ?_
          refine xm_isub dX4_openCall_72 ?_
          refine xb_if hf (fun hb hf => ?_) (fun _ q => nomatch q)
          obtain ⟨p10, ep10, hf⟩ := xbind hf
          refine xb_callV (As := [.int (3 : Int32), va_rf none, .int l1, .int (x9 - (1 : Int32))]) (v0 := (some (.int p10.1))) (τ0 := p10.2) dX4_openCall_73 (xc_X4_addTask _ _) xcl4 xw_943 xw_945 xs_21 hb rfl (Nat.le_of_ble_eq_true rfl) rfl (Nat.le_of_ble_eq_true rfl) (fun Q1 hq => m_X4_addTask (d := d + 0) ep10 (fun g hg => by subst hg; exact hq)) ?_
          cases hf
          exact xm_iret dX4_openCall_76 rfl (hR _ rfl)
        · refine xm_bipush dX4_openCall_50 (v := 9) (by decide) ?_
          cases hf
          exact xm_iret dX4_openCall_52 rfl (hR _ rfl)
      · refine xm_bipush dX4_openCall_31 (v := 8) (by decide) ?_
        cases hf
        exact xm_iret dX4_openCall_33 rfl (hR _ rfl)
    · exact xm_sub [] rfl (L_X4_openCall_j20 σ hf hR)
-- Rankwise$Machine.faultOf(ILRankwise$Fraction;LRankwise$Fraction;)I
def f_X4_faultOf_j64 (σ : xM) (s0 : Int32) : Option Int32 :=
  some s0
set_option maxHeartbeats 4000000 in
set_option maxRecDepth 20000 in
theorem L_X4_faultOf_j64 {G : xG} {π : Nat → Nat} {d C Z : Nat} {Q : xQ} (σ : xM) (s0 : Int32) {x : Int32} (hf : f_X4_faultOf_j64 σ s0 = some x) (hR : ∀ g, x = g → Q (.inl (some (.int g))) (σ) π) : xMach G π J_X4_faultOf (d + 2) C Z 64 [] [.int s0] σ Q := by
  unfold f_X4_faultOf_j64 at hf
  cases hf
  exact xm_iret dX4_faultOf_64 rfl (hR _ rfl)
def f_X4_faultOf_j79 (σ : xM)  : Option Int32 :=
  some (2 : Int32)
set_option maxHeartbeats 4000000 in
set_option maxRecDepth 20000 in
theorem L_X4_faultOf_j79 {G : xG} {π : Nat → Nat} {d C Z : Nat} {Q : xQ} (σ : xM)  {x : Int32} (hf : f_X4_faultOf_j79 σ = some x) (hR : ∀ g, x = g → Q (.inl (some (.int g))) (σ) π) : xMach G π J_X4_faultOf (d + 2) C Z 79 [] [] σ Q := by
  unfold f_X4_faultOf_j79 at hf
  refine xm_iconst dX4_faultOf_79 (v := 2) (by decide) ?_
  cases hf
  exact xm_iret dX4_faultOf_80 rfl (hR _ rfl)
def f_X4_faultOf_j93 (σ : xM) (s0 : Int32) : Option Int32 :=
  some s0
set_option maxHeartbeats 4000000 in
set_option maxRecDepth 20000 in
theorem L_X4_faultOf_j93 {G : xG} {π : Nat → Nat} {d C Z : Nat} {Q : xQ} (σ : xM) (s0 : Int32) {x : Int32} (hf : f_X4_faultOf_j93 σ s0 = some x) (hR : ∀ g, x = g → Q (.inl (some (.int g))) (σ) π) : xMach G π J_X4_faultOf (d + 2) C Z 93 [] [.int s0] σ Q := by
  unfold f_X4_faultOf_j93 at hf
  cases hf
  exact xm_iret dX4_faultOf_93 rfl (hR _ rfl)
def f_X4_faultOf_j133 (σ : xM) (s0 : Int32) : Option Int32 :=
  some s0
set_option maxHeartbeats 4000000 in
set_option maxRecDepth 20000 in
theorem L_X4_faultOf_j133 {G : xG} {π : Nat → Nat} {d C Z : Nat} {Q : xQ} (σ : xM) (s0 : Int32) {x : Int32} (hf : f_X4_faultOf_j133 σ s0 = some x) (hR : ∀ g, x = g → Q (.inl (some (.int g))) (σ) π) : xMach G π J_X4_faultOf (d + 2) C Z 133 [] [.int s0] σ Q := by
  unfold f_X4_faultOf_j133 at hf
  cases hf
  exact xm_iret dX4_faultOf_133 rfl (hR _ rfl)
def f_X4_faultOf_j128 (σ : xM)  : Option Int32 :=
  f_X4_faultOf_j133 σ (3 : Int32)
set_option maxHeartbeats 4000000 in
set_option maxRecDepth 20000 in
theorem L_X4_faultOf_j128 {G : xG} {π : Nat → Nat} {d C Z : Nat} {Q : xQ} (σ : xM)  {x : Int32} (hf : f_X4_faultOf_j128 σ = some x) (hR : ∀ g, x = g → Q (.inl (some (.int g))) (σ) π) : xMach G π J_X4_faultOf (d + 2) C Z 128 [] [] σ Q := by
  unfold f_X4_faultOf_j128 at hf
  refine xm_iconst dX4_faultOf_128 (v := 3) (by decide) ?_
  refine xm_goto 133 dX4_faultOf_129 (by decide) ?_
  exact xm_sub [] rfl (L_X4_faultOf_j133 σ (3 : Int32) hf hR)
def f_X4_faultOf_j116 (σ : xM) (l3 : Int32) : Option Int32 :=
  (if (64 : Int32) < l3 then f_X4_faultOf_j128 σ else (if (-64 : Int32) ≤ l3 then f_X4_faultOf_j133 σ (0 : Int32) else f_X4_faultOf_j128 σ))
set_option maxHeartbeats 4000000 in
set_option maxRecDepth 20000 in
theorem L_X4_faultOf_j116 {G : xG} {π : Nat → Nat} {d C Z : Nat} {Q : xQ} (σ : xM) (l3 : Int32) {x : Int32} (hf : f_X4_faultOf_j116 σ l3 = some x) (hR : ∀ g, x = g → Q (.inl (some (.int g))) (σ) π) : xMach G π J_X4_faultOf (d + 2) C Z 116 [(3, .int l3)] [] σ Q := by
  unfold f_X4_faultOf_j116 at hf
  refine xm_iload_n dX4_faultOf_116 rfl ?_
  refine xm_bipush dX4_faultOf_117 (v := 64) (by decide) ?_
  refine xb_icmp_gt 128 dX4_faultOf_119 (by decide) hf (fun c hf => ?_) (fun c hf => ?_)
  · exact xm_sub [] rfl (L_X4_faultOf_j128 σ hf hR)
  · refine xm_iload_n dX4_faultOf_122 rfl ?_
    refine xm_bipush dX4_faultOf_123 (v := -64) (by decide) ?_
    refine xb_icmp_ge 132 dX4_faultOf_125 (by decide) hf (fun c hf => ?_) (fun c hf => ?_)
    · refine xm_iconst dX4_faultOf_132 (v := 0) (by decide) ?_
      exact xm_sub [] rfl (L_X4_faultOf_j133 σ (0 : Int32) hf hR)
    · exact xm_sub [] rfl (L_X4_faultOf_j128 σ hf hR)
def f_X4_faultOf_j145 (σ : xM)  : Option Int32 :=
  some (2 : Int32)
set_option maxHeartbeats 4000000 in
set_option maxRecDepth 20000 in
theorem L_X4_faultOf_j145 {G : xG} {π : Nat → Nat} {d C Z : Nat} {Q : xQ} (σ : xM)  {x : Int32} (hf : f_X4_faultOf_j145 σ = some x) (hR : ∀ g, x = g → Q (.inl (some (.int g))) (σ) π) : xMach G π J_X4_faultOf (d + 2) C Z 145 [] [] σ Q := by
  unfold f_X4_faultOf_j145 at hf
  refine xm_iconst dX4_faultOf_145 (v := 2) (by decide) ?_
  cases hf
  exact xm_iret dX4_faultOf_146 rfl (hR _ rfl)
def f_X4_faultOf_j158 (σ : xM) (s0 : Int32) : Option Int32 :=
  some s0
set_option maxHeartbeats 4000000 in
set_option maxRecDepth 20000 in
theorem L_X4_faultOf_j158 {G : xG} {π : Nat → Nat} {d C Z : Nat} {Q : xQ} (σ : xM) (s0 : Int32) {x : Int32} (hf : f_X4_faultOf_j158 σ s0 = some x) (hR : ∀ g, x = g → Q (.inl (some (.int g))) (σ) π) : xMach G π J_X4_faultOf (d + 2) C Z 158 [] [.int s0] σ Q := by
  unfold f_X4_faultOf_j158 at hf
  cases hf
  exact xm_iret dX4_faultOf_158 rfl (hR _ rfl)
def f_X4_faultOf (σ : xM) (l0 : Int32) (l1 : Nat) (l2 : Nat) : Option Int32 :=
  (gR σ l2 2 0).bind (fun x1 => (if xk σ x1 10 = true then (f_X10_clamped σ x1).bind (fun p2 => (if l0 = (3 : Int32) then (if xk σ l2 2 = true then (f_X2_isZero σ l2).bind (fun p3 => (if p3 = (0 : Int32) then f_X4_faultOf_j64 σ (0 : Int32) else f_X4_faultOf_j64 σ (1 : Int32))) else none) else (if l0 = (4 : Int32) then (if xk σ l1 2 = true then (f_X2_isWhole σ l1).bind (fun p4 => (if p4 = (0 : Int32) then f_X4_faultOf_j79 σ else (if xk σ l2 2 = true then (f_X2_isWhole σ l2).bind (fun p5 => (if p5 = (0 : Int32) then f_X4_faultOf_j79 σ else (if xk σ l2 2 = true then (f_X2_isZero σ l2).bind (fun p6 => (if p6 = (0 : Int32) then f_X4_faultOf_j93 σ (0 : Int32) else f_X4_faultOf_j93 σ (1 : Int32))) else none))) else none))) else none) else (if l0 = (5 : Int32) then (if xk σ l2 2 = true then (f_X2_isWhole σ l2).bind (fun p7 => (if p7 = (0 : Int32) then some (2 : Int32) else (if xk σ l1 2 = true then (f_X2_isZero σ l1).bind (fun p8 => (if p8 = (0 : Int32) then f_X4_faultOf_j116 σ p2 else (if (0 : Int32) ≤ p2 then f_X4_faultOf_j116 σ p2 else some (1 : Int32)))) else none))) else none) else (if l0 = (13 : Int32) then (if xk σ l1 2 = true then (f_X2_isWhole σ l1).bind (fun p9 => (if p9 = (0 : Int32) then f_X4_faultOf_j145 σ else (if (0 : Int32) ≤ p2 then (if p2 ≤ (30 : Int32) then f_X4_faultOf_j158 σ (0 : Int32) else f_X4_faultOf_j158 σ (3 : Int32)) else f_X4_faultOf_j145 σ))) else none) else some (0 : Int32)))))) else none))
set_option maxHeartbeats 4000000 in
set_option maxRecDepth 20000 in
theorem m_X4_faultOf {G : xG} {π : Nat → Nat} {d C Z : Nat} {Q : xQ} {σ : xM} {l0 : Int32} {l1 : Nat} {l2 : Nat} {x : Int32} (hf : f_X4_faultOf σ l0 l1 l2 = some x) (hR : ∀ g, x = g → Q (.inl (some (.int g))) (σ) π) : xMach G π J_X4_faultOf (d + 2) C Z 0 (lv_args 0 [.int l0, .ref l1, .ref l2]) [] σ Q := by
  unfold f_X4_faultOf at hf
  refine xm_stL (L' := [(0, .int l0), (1, .ref l1), (2, .ref l2)]) rfl ?_
  refine xm_aload_n dX4_faultOf_0 rfl ?_
  refine xb_getR (a := l2) (c := 2) (k := 0) dX4_faultOf_1 xcl2 (by decide) xw_259 rfl hf (fun x1 ex1 hf => ?_)
  refine xb_if hf (fun hb hf => ?_) (fun _ q => nomatch q)
  obtain ⟨p2, ep2, hf⟩ := xbind hf
  refine xb_callV (As := []) (v0 := (some (.int p2))) (τ0 := σ) dX4_faultOf_4 (xc_X10_clamped _ _) xcl10 xw_1060 xw_1061 xw_1062 hb rfl (Nat.le_of_ble_eq_true rfl) rfl (Nat.le_of_ble_eq_true rfl) (fun Q1 hq => m_X10_clamped (d := d + 1) ep2 (fun g hg => by subst hg; exact hq)) ?_
  refine xm_istore_n dX4_faultOf_7 (by decide) (xm_stL (L' := [(3, .int p2), (0, .int l0), (1, .ref l1), (2, .ref l2)]) rfl ?_)
  refine xm_iload_n dX4_faultOf_8 rfl ?_
  refine xb_if hf (fun c hf => ?_) (fun n0 hf => ?_)
  · refine xm_lookup (off := 43) 52 dX4_faultOf_9 (by decide) (by rw [c] <;> rfl) (by decide) ?_
    refine xm_aload_n dX4_faultOf_52 rfl ?_
    refine xb_if hf (fun hb hf => ?_) (fun _ q => nomatch q)
    obtain ⟨p3, ep3, hf⟩ := xbind hf
    refine xb_callV (As := []) (v0 := (some (.int p3))) (τ0 := σ) dX4_faultOf_53 (xc_X2_isZero _ _) xcl2 xw_989 xw_990 xw_991 hb rfl (Nat.le_of_ble_eq_true rfl) rfl (Nat.le_of_ble_eq_true rfl) (fun Q1 hq => m_X2_isZero (d := d + 0) ep3 (fun g hg => by subst hg; exact hq)) ?_
    refine xb_if_eq 63 dX4_faultOf_56 (by decide) hf (fun c hf => ?_) (fun c hf => ?_)
    · refine xm_iconst dX4_faultOf_63 (v := 0) (by decide) ?_
      exact xm_sub [] rfl (L_X4_faultOf_j64 σ (0 : Int32) hf hR)
    · refine xm_iconst dX4_faultOf_59 (v := 1) (by decide) ?_
      refine xm_goto 64 dX4_faultOf_60 (by decide) ?_
      exact xm_sub [] rfl (L_X4_faultOf_j64 σ (1 : Int32) hf hR)
  refine xb_if hf (fun c hf => ?_) (fun n1 hf => ?_)
  · refine xm_lookup (off := 56) 65 dX4_faultOf_9 (by decide) (by rw [c] <;> rfl) (by decide) ?_
    refine xm_aload_n dX4_faultOf_65 rfl ?_
    refine xb_if hf (fun hb hf => ?_) (fun _ q => nomatch q)
    obtain ⟨p4, ep4, hf⟩ := xbind hf
    refine xb_callV (As := []) (v0 := (some (.int p4))) (τ0 := σ) dX4_faultOf_66 (xc_X2_isWhole _ _) xcl2 xw_1029 xw_1030 xw_1031 hb rfl (Nat.le_of_ble_eq_true rfl) rfl (Nat.le_of_ble_eq_true rfl) (fun Q1 hq => m_X2_isWhole (d := d + 0) ep4 (fun g hg => by subst hg; exact hq)) ?_
    refine xb_if_eq 79 dX4_faultOf_69 (by decide) hf (fun c hf => ?_) (fun c hf => ?_)
    · exact xm_sub [] rfl (L_X4_faultOf_j79 σ hf hR)
    · refine xm_aload_n dX4_faultOf_72 rfl ?_
      refine xb_if hf (fun hb hf => ?_) (fun _ q => nomatch q)
      obtain ⟨p5, ep5, hf⟩ := xbind hf
      refine xb_callV (As := []) (v0 := (some (.int p5))) (τ0 := σ) dX4_faultOf_73 (xc_X2_isWhole _ _) xcl2 xw_1029 xw_1030 xw_1031 hb rfl (Nat.le_of_ble_eq_true rfl) rfl (Nat.le_of_ble_eq_true rfl) (fun Q1 hq => m_X2_isWhole (d := d + 0) ep5 (fun g hg => by subst hg; exact hq)) ?_
      refine xb_if_ne 81 dX4_faultOf_76 (by decide) hf (fun c hf => ?_) (fun c hf => ?_)
      · refine xm_aload_n dX4_faultOf_81 rfl ?_
        refine xb_if hf (fun hb hf => ?_) (fun _ q => nomatch q)
        obtain ⟨p6, ep6, hf⟩ := xbind hf
        refine xb_callV (As := []) (v0 := (some (.int p6))) (τ0 := σ) dX4_faultOf_82 (xc_X2_isZero _ _) xcl2 xw_989 xw_990 xw_991 hb rfl (Nat.le_of_ble_eq_true rfl) rfl (Nat.le_of_ble_eq_true rfl) (fun Q1 hq => m_X2_isZero (d := d + 0) ep6 (fun g hg => by subst hg; exact hq)) ?_
        refine xb_if_eq 92 dX4_faultOf_85 (by decide) hf (fun c hf => ?_) (fun c hf => ?_)
        · refine xm_iconst dX4_faultOf_92 (v := 0) (by decide) ?_
          exact xm_sub [] rfl (L_X4_faultOf_j93 σ (0 : Int32) hf hR)
        · refine xm_iconst dX4_faultOf_88 (v := 1) (by decide) ?_
          refine xm_goto 93 dX4_faultOf_89 (by decide) ?_
          exact xm_sub [] rfl (L_X4_faultOf_j93 σ (1 : Int32) hf hR)
      · exact xm_sub [] rfl (L_X4_faultOf_j79 σ hf hR)
  refine xb_if hf (fun c hf => ?_) (fun n2 hf => ?_)
  · refine xm_lookup (off := 85) 94 dX4_faultOf_9 (by decide) (by rw [c] <;> rfl) (by decide) ?_
    refine xm_aload_n dX4_faultOf_94 rfl ?_
    refine xb_if hf (fun hb hf => ?_) (fun _ q => nomatch q)
    obtain ⟨p7, ep7, hf⟩ := xbind hf
    refine xb_callV (As := []) (v0 := (some (.int p7))) (τ0 := σ) dX4_faultOf_95 (xc_X2_isWhole _ _) xcl2 xw_1029 xw_1030 xw_1031 hb rfl (Nat.le_of_ble_eq_true rfl) rfl (Nat.le_of_ble_eq_true rfl) (fun Q1 hq => m_X2_isWhole (d := d + 0) ep7 (fun g hg => by subst hg; exact hq)) ?_
    refine xb_if_ne 103 dX4_faultOf_98 (by decide) hf (fun c hf => ?_) (fun c hf => ?_)
    · refine xm_aload_n dX4_faultOf_103 rfl ?_
      refine xb_if hf (fun hb hf => ?_) (fun _ q => nomatch q)
      obtain ⟨p8, ep8, hf⟩ := xbind hf
      refine xb_callV (As := []) (v0 := (some (.int p8))) (τ0 := σ) dX4_faultOf_104 (xc_X2_isZero _ _) xcl2 xw_989 xw_990 xw_991 hb rfl (Nat.le_of_ble_eq_true rfl) rfl (Nat.le_of_ble_eq_true rfl) (fun Q1 hq => m_X2_isZero (d := d + 0) ep8 (fun g hg => by subst hg; exact hq)) ?_
      refine xb_if_eq 116 dX4_faultOf_107 (by decide) hf (fun c hf => ?_) (fun c hf => ?_)
      · exact xm_sub [0] rfl (L_X4_faultOf_j116 σ p2 hf hR)
      · refine xm_iload_n dX4_faultOf_110 rfl ?_
        refine xb_if_ge 116 dX4_faultOf_111 (by decide) hf (fun c hf => ?_) (fun c hf => ?_)
        · exact xm_sub [0] rfl (L_X4_faultOf_j116 σ p2 hf hR)
        · refine xm_iconst dX4_faultOf_114 (v := 1) (by decide) ?_
          cases hf
          exact xm_iret dX4_faultOf_115 rfl (hR _ rfl)
    · refine xm_iconst dX4_faultOf_101 (v := 2) (by decide) ?_
      cases hf
      exact xm_iret dX4_faultOf_102 rfl (hR _ rfl)
  refine xb_if hf (fun c hf => ?_) (fun n3 hf => ?_)
  · refine xm_lookup (off := 125) 134 dX4_faultOf_9 (by decide) (by rw [c] <;> rfl) (by decide) ?_
    refine xm_aload_n dX4_faultOf_134 rfl ?_
    refine xb_if hf (fun hb hf => ?_) (fun _ q => nomatch q)
    obtain ⟨p9, ep9, hf⟩ := xbind hf
    refine xb_callV (As := []) (v0 := (some (.int p9))) (τ0 := σ) dX4_faultOf_135 (xc_X2_isWhole _ _) xcl2 xw_1029 xw_1030 xw_1031 hb rfl (Nat.le_of_ble_eq_true rfl) rfl (Nat.le_of_ble_eq_true rfl) (fun Q1 hq => m_X2_isWhole (d := d + 0) ep9 (fun g hg => by subst hg; exact hq)) ?_
    refine xb_if_eq 145 dX4_faultOf_138 (by decide) hf (fun c hf => ?_) (fun c hf => ?_)
    · exact xm_sub [] rfl (L_X4_faultOf_j145 σ hf hR)
    · refine xm_iload_n dX4_faultOf_141 rfl ?_
      refine xb_if_ge 147 dX4_faultOf_142 (by decide) hf (fun c hf => ?_) (fun c hf => ?_)
      · refine xm_iload_n dX4_faultOf_147 rfl ?_
        refine xm_bipush dX4_faultOf_148 (v := 30) (by decide) ?_
        refine xb_icmp_le 157 dX4_faultOf_150 (by decide) hf (fun c hf => ?_) (fun c hf => ?_)
        · refine xm_iconst dX4_faultOf_157 (v := 0) (by decide) ?_
          exact xm_sub [] rfl (L_X4_faultOf_j158 σ (0 : Int32) hf hR)
        · refine xm_iconst dX4_faultOf_153 (v := 3) (by decide) ?_
          refine xm_goto 158 dX4_faultOf_154 (by decide) ?_
          exact xm_sub [] rfl (L_X4_faultOf_j158 σ (3 : Int32) hf hR)
      · exact xm_sub [] rfl (L_X4_faultOf_j145 σ hf hR)
  refine xm_lookup (off := 150) 159 dX4_faultOf_9 (by decide) (by refine (lv_osw n0 (by decide)).trans ?_; refine (lv_osw n1 (by decide)).trans ?_; refine (lv_osw n2 (by decide)).trans ?_; refine (lv_osw n3 (by decide)).trans ?_; rfl) (by decide) ?_
  refine xm_iconst dX4_faultOf_159 (v := 0) (by decide) ?_
  cases hf
  exact xm_iret dX4_faultOf_160 rfl (hR _ rfl)
-- Rankwise$Machine.operate(I)I
def f_X4_operate_j24 (σ : xM)  : Option (Int32 × xM) :=
  some ((5 : Int32), σ)
set_option maxHeartbeats 4000000 in
set_option maxRecDepth 20000 in
theorem L_X4_operate_j24 {G : xG} {π : Nat → Nat} {d C Z : Nat} {Q : xQ} (σ : xM)  {x : (Int32 × xM)} (hf : f_X4_operate_j24 σ = some x) (hR : ∀ g, x = g → Q (.inl (some (.int g.1))) (g.2) π) : xMach G π J_X4_operate (d + 3) C Z 24 [] [] σ Q := by
  unfold f_X4_operate_j24 at hf
  refine xm_iconst dX4_operate_24 (v := 5) (by decide) ?_
  cases hf
  exact xm_iret dX4_operate_25 rfl (hR _ rfl)
def f_X4_operate_j487 (σ : xM)  : Option (Int32 × xM) :=
  some ((3 : Int32), σ)
set_option maxHeartbeats 4000000 in
set_option maxRecDepth 20000 in
theorem L_X4_operate_j487 {G : xG} {π : Nat → Nat} {d C Z : Nat} {Q : xQ} (σ : xM)  {x : (Int32 × xM)} (hf : f_X4_operate_j487 σ = some x) (hR : ∀ g, x = g → Q (.inl (some (.int g.1))) (g.2) π) : xMach G π J_X4_operate (d + 3) C Z 487 [] [] σ Q := by
  unfold f_X4_operate_j487 at hf
  refine xm_iconst dX4_operate_487 (v := 3) (by decide) ?_
  cases hf
  exact xm_iret dX4_operate_488 rfl (hR _ rfl)
def f_X4_operate_j472 (σ : xM) (l0 : Nat) (l2 : Int32) (l4 : Nat) (l6 : Int32) : Option (Int32 × xM) :=
  (if l6 = (0 : Int32) then f_X4_operate_j487 σ else (gR σ l0 4 5).bind (fun x15 => (if xk σ x15 2 = true then (f_X2_fits σ x15).bind (fun p16 => (if p16 = (0 : Int32) then f_X4_operate_j487 σ else (gI σ l0 4 3).bind (fun x17 => (sI σ l0 4 3 (x17 - (l2 - (1 : Int32)))).bind (fun σ18 => (gR σ18 l0 4 5).bind (fun x19 => (if xk σ18 l4 2 = true then (f_X2_copy σ18 l4 x19).bind (fun p20 => some ((0 : Int32), p20)) else none)))))) else none)))
set_option maxHeartbeats 4000000 in
set_option maxRecDepth 20000 in
theorem L_X4_operate_j472 {G : xG} {π : Nat → Nat} {d C Z : Nat} {Q : xQ} (σ : xM) (l0 : Nat) (l2 : Int32) (l4 : Nat) (l6 : Int32) {x : (Int32 × xM)} (hf : f_X4_operate_j472 σ l0 l2 l4 l6 = some x) (hR : ∀ g, x = g → Q (.inl (some (.int g.1))) (g.2) π) : xMach G π J_X4_operate (d + 3) C Z 472 [(0, .ref l0), (2, .int l2), (4, .ref l4), (6, .int l6)] [] σ Q := by
  unfold f_X4_operate_j472 at hf
  refine xm_iload dX4_operate_472 rfl ?_
  refine xb_if_eq 487 dX4_operate_474 (by decide) hf (fun c hf => ?_) (fun c hf => ?_)
  · exact xm_sub [] rfl (L_X4_operate_j487 σ hf hR)
  · refine xm_aload_n dX4_operate_477 rfl ?_
    refine xb_getR (a := l0) (c := 4) (k := 5) dX4_operate_478 xcl4 (by decide) xw_426 rfl hf (fun x15 ex15 hf => ?_)
    refine xb_if hf (fun hb hf => ?_) (fun _ q => nomatch q)
    obtain ⟨p16, ep16, hf⟩ := xbind hf
    refine xb_callV (As := []) (v0 := (some (.int p16))) (τ0 := σ) dX4_operate_481 (xc_X2_fits _ _) xcl2 xw_1123 xw_1124 xw_1125 hb rfl (Nat.le_of_ble_eq_true rfl) rfl (Nat.le_of_ble_eq_true rfl) (fun Q1 hq => m_X2_fits (d := d + 1) ep16 (fun g hg => by subst hg; exact hq)) ?_
    refine xb_if_ne 489 dX4_operate_484 (by decide) hf (fun c hf => ?_) (fun c hf => ?_)
    · refine xm_aload_n dX4_operate_489 rfl ?_
      refine xm_dup dX4_operate_490 rfl ?_
      refine xb_getI (a := l0) (c := 4) (k := 3) dX4_operate_491 xcl4 (by decide) xw_424 rfl hf (fun x17 ex17 hf => ?_)
      refine xm_iload_n dX4_operate_494 rfl ?_
      refine xm_iconst dX4_operate_495 (v := 1) (by decide) ?_
      refine xm_isub dX4_operate_496 ?_
      refine xm_isub dX4_operate_497 ?_
      refine xb_putI (a := l0) (c := 4) (k := 3) dX4_operate_498 xcl4 (by decide) xw_424 rfl rfl hf (fun σ18 eσ18 hf => ?_)
      refine xm_aload dX4_operate_501 rfl ?_
      refine xm_aload_n dX4_operate_503 rfl ?_
      refine xb_getR (a := l0) (c := 4) (k := 5) dX4_operate_504 xcl4 (by decide) xw_426 rfl hf (fun x19 ex19 hf => ?_)
      refine xb_if hf (fun hb hf => ?_) (fun _ q => nomatch q)
      obtain ⟨p20, ep20, hf⟩ := xbind hf
      refine xb_callV (As := [.ref x19]) (v0 := none) (τ0 := p20) dX4_operate_507 (xc_X2_copy _ _) xcl2 xw_964 xw_965 xw_966 hb rfl (Nat.le_of_ble_eq_true rfl) rfl (Nat.le_of_ble_eq_true rfl) (fun Q1 hq => m_X2_copy (d := d + 0) ep20 (fun g hg => by subst hg; exact hq)) ?_
      refine xm_iconst dX4_operate_510 (v := 0) (by decide) ?_
      cases hf
      exact xm_iret dX4_operate_511 rfl (hR _ rfl)
    · exact xm_sub [] rfl (L_X4_operate_j487 σ hf hR)
def f_X4_operate_j456 (σ : xM) (l0 : Nat) (l2 : Int32) (l4 : Nat) (l6 : Int32) : Option (Int32 × xM) :=
  (if l6 = (0 : Int32) then f_X4_operate_j472 σ l0 l2 l4 l6 else (gR σ l0 4 1).bind (fun x21 => (gR σ l0 4 5).bind (fun x22 => (if xk σ x21 0 = true then (f_X0_settle σ x21 x22).bind (fun p23 => f_X4_operate_j472 p23 l0 l2 l4 l6) else none))))
set_option maxHeartbeats 4000000 in
set_option maxRecDepth 20000 in
theorem L_X4_operate_j456 {G : xG} {π : Nat → Nat} {d C Z : Nat} {Q : xQ} (σ : xM) (l0 : Nat) (l2 : Int32) (l4 : Nat) (l6 : Int32) {x : (Int32 × xM)} (hf : f_X4_operate_j456 σ l0 l2 l4 l6 = some x) (hR : ∀ g, x = g → Q (.inl (some (.int g.1))) (g.2) π) : xMach G π J_X4_operate (d + 3) C Z 456 [(0, .ref l0), (2, .int l2), (4, .ref l4), (6, .int l6)] [] σ Q := by
  unfold f_X4_operate_j456 at hf
  refine xm_iload dX4_operate_456 rfl ?_
  refine xb_if_eq 472 dX4_operate_458 (by decide) hf (fun c hf => ?_) (fun c hf => ?_)
  · exact xm_sub [0, 1, 2, 3] rfl (L_X4_operate_j472 σ l0 l2 l4 l6 hf hR)
  · refine xm_aload_n dX4_operate_461 rfl ?_
    refine xb_getR (a := l0) (c := 4) (k := 1) dX4_operate_462 xcl4 (by decide) xw_422 rfl hf (fun x21 ex21 hf => ?_)
    refine xm_aload_n dX4_operate_465 rfl ?_
    refine xb_getR (a := l0) (c := 4) (k := 5) dX4_operate_466 xcl4 (by decide) xw_426 rfl hf (fun x22 ex22 hf => ?_)
    refine xb_if hf (fun hb hf => ?_) (fun _ q => nomatch q)
    obtain ⟨p23, ep23, hf⟩ := xbind hf
    refine xb_callV (As := [.ref x22]) (v0 := none) (τ0 := p23) dX4_operate_469 (xc_X0_settle _ _) xcl0 xw_1081 xw_1082 xw_1083 hb rfl (Nat.le_of_ble_eq_true rfl) rfl (Nat.le_of_ble_eq_true rfl) (fun Q1 hq => m_X0_settle (d := d + 0) ep23 (fun g hg => by subst hg; exact hq)) ?_
    exact xm_sub [0, 1, 2, 3] rfl (L_X4_operate_j472 p23 l0 l2 l4 l6 hf hR)
def f_X4_operate_j274 (σ : xM) (l0 : Nat) (l2 : Int32) (l4 : Nat) (l6 : Int32) (s0 : Int64) (s1 : Nat) : Option (Int32 × xM) :=
  (if xk σ s1 2 = true then (f_X2_set σ s1 s0).bind (fun p47 => f_X4_operate_j456 p47 l0 l2 l4 l6) else none)
set_option maxHeartbeats 4000000 in
set_option maxRecDepth 20000 in
theorem L_X4_operate_j274 {G : xG} {π : Nat → Nat} {d C Z : Nat} {Q : xQ} (σ : xM) (l0 : Nat) (l2 : Int32) (l4 : Nat) (l6 : Int32) (s0 : Int64) (s1 : Nat) {x : (Int32 × xM)} (hf : f_X4_operate_j274 σ l0 l2 l4 l6 s0 s1 = some x) (hR : ∀ g, x = g → Q (.inl (some (.int g.1))) (g.2) π) : xMach G π J_X4_operate (d + 3) C Z 274 [(0, .ref l0), (2, .int l2), (4, .ref l4), (6, .int l6)] [.long s0, .ref s1] σ Q := by
  unfold f_X4_operate_j274 at hf
  refine xb_if hf (fun hb hf => ?_) (fun _ q => nomatch q)
  obtain ⟨p47, ep47, hf⟩ := xbind hf
  refine xb_callV (As := [.long s0]) (v0 := none) (τ0 := p47) dX4_operate_274 (xc_X2_set _ _) xcl2 xw_1069 xw_1070 xw_1071 hb rfl (Nat.le_of_ble_eq_true rfl) rfl (Nat.le_of_ble_eq_true rfl) (fun Q1 hq => m_X2_set (d := d + 1) ep47 (fun g hg => by subst hg; exact hq)) ?_
  refine xm_goto 456 dX4_operate_277 (by decide) ?_
  exact xm_sub [0, 1, 2, 3] rfl (L_X4_operate_j456 p47 l0 l2 l4 l6 hf hR)
def f_X4_operate_j298 (σ : xM) (l0 : Nat) (l2 : Int32) (l4 : Nat) (l6 : Int32) (s0 : Int64) (s1 : Nat) : Option (Int32 × xM) :=
  (if xk σ s1 2 = true then (f_X2_set σ s1 s0).bind (fun p50 => f_X4_operate_j456 p50 l0 l2 l4 l6) else none)
set_option maxHeartbeats 4000000 in
set_option maxRecDepth 20000 in
theorem L_X4_operate_j298 {G : xG} {π : Nat → Nat} {d C Z : Nat} {Q : xQ} (σ : xM) (l0 : Nat) (l2 : Int32) (l4 : Nat) (l6 : Int32) (s0 : Int64) (s1 : Nat) {x : (Int32 × xM)} (hf : f_X4_operate_j298 σ l0 l2 l4 l6 s0 s1 = some x) (hR : ∀ g, x = g → Q (.inl (some (.int g.1))) (g.2) π) : xMach G π J_X4_operate (d + 3) C Z 298 [(0, .ref l0), (2, .int l2), (4, .ref l4), (6, .int l6)] [.long s0, .ref s1] σ Q := by
  unfold f_X4_operate_j298 at hf
  refine xb_if hf (fun hb hf => ?_) (fun _ q => nomatch q)
  obtain ⟨p50, ep50, hf⟩ := xbind hf
  refine xb_callV (As := [.long s0]) (v0 := none) (τ0 := p50) dX4_operate_298 (xc_X2_set _ _) xcl2 xw_1069 xw_1070 xw_1071 hb rfl (Nat.le_of_ble_eq_true rfl) rfl (Nat.le_of_ble_eq_true rfl) (fun Q1 hq => m_X2_set (d := d + 1) ep50 (fun g hg => by subst hg; exact hq)) ?_
  refine xm_goto 456 dX4_operate_301 (by decide) ?_
  exact xm_sub [0, 1, 2, 3] rfl (L_X4_operate_j456 p50 l0 l2 l4 l6 hf hR)
def f_X4_operate_j326 (σ : xM) (l0 : Nat) (l2 : Int32) (l4 : Nat) (l6 : Int32) (s0 : Int64) (s1 : Nat) : Option (Int32 × xM) :=
  (if xk σ s1 2 = true then (f_X2_set σ s1 s0).bind (fun p54 => f_X4_operate_j456 p54 l0 l2 l4 l6) else none)
set_option maxHeartbeats 4000000 in
set_option maxRecDepth 20000 in
theorem L_X4_operate_j326 {G : xG} {π : Nat → Nat} {d C Z : Nat} {Q : xQ} (σ : xM) (l0 : Nat) (l2 : Int32) (l4 : Nat) (l6 : Int32) (s0 : Int64) (s1 : Nat) {x : (Int32 × xM)} (hf : f_X4_operate_j326 σ l0 l2 l4 l6 s0 s1 = some x) (hR : ∀ g, x = g → Q (.inl (some (.int g.1))) (g.2) π) : xMach G π J_X4_operate (d + 3) C Z 326 [(0, .ref l0), (2, .int l2), (4, .ref l4), (6, .int l6)] [.long s0, .ref s1] σ Q := by
  unfold f_X4_operate_j326 at hf
  refine xb_if hf (fun hb hf => ?_) (fun _ q => nomatch q)
  obtain ⟨p54, ep54, hf⟩ := xbind hf
  refine xb_callV (As := [.long s0]) (v0 := none) (τ0 := p54) dX4_operate_326 (xc_X2_set _ _) xcl2 xw_1069 xw_1070 xw_1071 hb rfl (Nat.le_of_ble_eq_true rfl) rfl (Nat.le_of_ble_eq_true rfl) (fun Q1 hq => m_X2_set (d := d + 1) ep54 (fun g hg => by subst hg; exact hq)) ?_
  refine xm_goto 456 dX4_operate_329 (by decide) ?_
  exact xm_sub [0, 1, 2, 3] rfl (L_X4_operate_j456 p54 l0 l2 l4 l6 hf hR)
def f_X4_operate_j356 (σ : xM) (l0 : Nat) (l2 : Int32) (l4 : Nat) (l6 : Int32) (s0 : Int64) (s1 : Nat) : Option (Int32 × xM) :=
  (if xk σ s1 2 = true then (f_X2_set σ s1 s0).bind (fun p57 => f_X4_operate_j456 p57 l0 l2 l4 l6) else none)
set_option maxHeartbeats 4000000 in
set_option maxRecDepth 20000 in
theorem L_X4_operate_j356 {G : xG} {π : Nat → Nat} {d C Z : Nat} {Q : xQ} (σ : xM) (l0 : Nat) (l2 : Int32) (l4 : Nat) (l6 : Int32) (s0 : Int64) (s1 : Nat) {x : (Int32 × xM)} (hf : f_X4_operate_j356 σ l0 l2 l4 l6 s0 s1 = some x) (hR : ∀ g, x = g → Q (.inl (some (.int g.1))) (g.2) π) : xMach G π J_X4_operate (d + 3) C Z 356 [(0, .ref l0), (2, .int l2), (4, .ref l4), (6, .int l6)] [.long s0, .ref s1] σ Q := by
  unfold f_X4_operate_j356 at hf
  refine xb_if hf (fun hb hf => ?_) (fun _ q => nomatch q)
  obtain ⟨p57, ep57, hf⟩ := xbind hf
  refine xb_callV (As := [.long s0]) (v0 := none) (τ0 := p57) dX4_operate_356 (xc_X2_set _ _) xcl2 xw_1069 xw_1070 xw_1071 hb rfl (Nat.le_of_ble_eq_true rfl) rfl (Nat.le_of_ble_eq_true rfl) (fun Q1 hq => m_X2_set (d := d + 1) ep57 (fun g hg => by subst hg; exact hq)) ?_
  refine xm_goto 456 dX4_operate_359 (by decide) ?_
  exact xm_sub [0, 1, 2, 3] rfl (L_X4_operate_j456 p57 l0 l2 l4 l6 hf hR)
def f_X4_operate_j351 (σ : xM) (l0 : Nat) (l2 : Int32) (l4 : Nat) (l6 : Int32) (s0 : Nat) : Option (Int32 × xM) :=
  f_X4_operate_j356 σ l0 l2 l4 l6 (0 : Int64) s0
set_option maxHeartbeats 4000000 in
set_option maxRecDepth 20000 in
theorem L_X4_operate_j351 {G : xG} {π : Nat → Nat} {d C Z : Nat} {Q : xQ} (σ : xM) (l0 : Nat) (l2 : Int32) (l4 : Nat) (l6 : Int32) (s0 : Nat) {x : (Int32 × xM)} (hf : f_X4_operate_j351 σ l0 l2 l4 l6 s0 = some x) (hR : ∀ g, x = g → Q (.inl (some (.int g.1))) (g.2) π) : xMach G π J_X4_operate (d + 3) C Z 351 [(0, .ref l0), (2, .int l2), (4, .ref l4), (6, .int l6)] [.ref s0] σ Q := by
  unfold f_X4_operate_j351 at hf
  refine xm_lconst dX4_operate_351 (v := 0) (by decide) ?_
  refine xm_goto 356 dX4_operate_352 (by decide) ?_
  exact xm_sub [0, 1, 2, 3] rfl (L_X4_operate_j356 σ l0 l2 l4 l6 (0 : Int64) s0 hf hR)
def f_X4_operate_j386 (σ : xM) (l0 : Nat) (l2 : Int32) (l4 : Nat) (l6 : Int32) (s0 : Int64) (s1 : Nat) : Option (Int32 × xM) :=
  (if xk σ s1 2 = true then (f_X2_set σ s1 s0).bind (fun p61 => f_X4_operate_j456 p61 l0 l2 l4 l6) else none)
set_option maxHeartbeats 4000000 in
set_option maxRecDepth 20000 in
theorem L_X4_operate_j386 {G : xG} {π : Nat → Nat} {d C Z : Nat} {Q : xQ} (σ : xM) (l0 : Nat) (l2 : Int32) (l4 : Nat) (l6 : Int32) (s0 : Int64) (s1 : Nat) {x : (Int32 × xM)} (hf : f_X4_operate_j386 σ l0 l2 l4 l6 s0 s1 = some x) (hR : ∀ g, x = g → Q (.inl (some (.int g.1))) (g.2) π) : xMach G π J_X4_operate (d + 3) C Z 386 [(0, .ref l0), (2, .int l2), (4, .ref l4), (6, .int l6)] [.long s0, .ref s1] σ Q := by
  unfold f_X4_operate_j386 at hf
  refine xb_if hf (fun hb hf => ?_) (fun _ q => nomatch q)
  obtain ⟨p61, ep61, hf⟩ := xbind hf
  refine xb_callV (As := [.long s0]) (v0 := none) (τ0 := p61) dX4_operate_386 (xc_X2_set _ _) xcl2 xw_1069 xw_1070 xw_1071 hb rfl (Nat.le_of_ble_eq_true rfl) rfl (Nat.le_of_ble_eq_true rfl) (fun Q1 hq => m_X2_set (d := d + 1) ep61 (fun g hg => by subst hg; exact hq)) ?_
  refine xm_goto 456 dX4_operate_389 (by decide) ?_
  exact xm_sub [0, 1, 2, 3] rfl (L_X4_operate_j456 p61 l0 l2 l4 l6 hf hR)
def f_X4_operate_j385 (σ : xM) (l0 : Nat) (l2 : Int32) (l4 : Nat) (l6 : Int32) (s0 : Nat) : Option (Int32 × xM) :=
  f_X4_operate_j386 σ l0 l2 l4 l6 (1 : Int64) s0
set_option maxHeartbeats 4000000 in
set_option maxRecDepth 20000 in
theorem L_X4_operate_j385 {G : xG} {π : Nat → Nat} {d C Z : Nat} {Q : xQ} (σ : xM) (l0 : Nat) (l2 : Int32) (l4 : Nat) (l6 : Int32) (s0 : Nat) {x : (Int32 × xM)} (hf : f_X4_operate_j385 σ l0 l2 l4 l6 s0 = some x) (hR : ∀ g, x = g → Q (.inl (some (.int g.1))) (g.2) π) : xMach G π J_X4_operate (d + 3) C Z 385 [(0, .ref l0), (2, .int l2), (4, .ref l4), (6, .int l6)] [.ref s0] σ Q := by
  unfold f_X4_operate_j385 at hf
  refine xm_lconst dX4_operate_385 (v := 1) (by decide) ?_
  exact xm_sub [0, 1, 2, 3] rfl (L_X4_operate_j386 σ l0 l2 l4 l6 (1 : Int64) s0 hf hR)
def f_X4_operate_j431 (σ : xM) (l0 : Nat) (l2 : Int32) (l4 : Nat) (l6 : Int32) (s0 : Int64) (s1 : Nat) : Option (Int32 × xM) :=
  (if xk σ s1 2 = true then (f_X2_set σ s1 s0).bind (fun p70 => f_X4_operate_j456 p70 l0 l2 l4 l6) else none)
set_option maxHeartbeats 4000000 in
set_option maxRecDepth 20000 in
theorem L_X4_operate_j431 {G : xG} {π : Nat → Nat} {d C Z : Nat} {Q : xQ} (σ : xM) (l0 : Nat) (l2 : Int32) (l4 : Nat) (l6 : Int32) (s0 : Int64) (s1 : Nat) {x : (Int32 × xM)} (hf : f_X4_operate_j431 σ l0 l2 l4 l6 s0 s1 = some x) (hR : ∀ g, x = g → Q (.inl (some (.int g.1))) (g.2) π) : xMach G π J_X4_operate (d + 3) C Z 431 [(0, .ref l0), (2, .int l2), (4, .ref l4), (6, .int l6)] [.long s0, .ref s1] σ Q := by
  unfold f_X4_operate_j431 at hf
  refine xb_if hf (fun hb hf => ?_) (fun _ q => nomatch q)
  obtain ⟨p70, ep70, hf⟩ := xbind hf
  refine xb_callV (As := [.long s0]) (v0 := none) (τ0 := p70) dX4_operate_431 (xc_X2_set _ _) xcl2 xw_1069 xw_1070 xw_1071 hb rfl (Nat.le_of_ble_eq_true rfl) rfl (Nat.le_of_ble_eq_true rfl) (fun Q1 hq => m_X2_set (d := d + 1) ep70 (fun g hg => by subst hg; exact hq)) ?_
  refine xm_goto 456 dX4_operate_434 (by decide) ?_
  exact xm_sub [0, 1, 2, 3] rfl (L_X4_operate_j456 p70 l0 l2 l4 l6 hf hR)
def f_X4_operate_j11 (σ : xM) (l0 : Nat) (l1 : Int32) (s0 : Int32) : Option (Int32 × xM) :=
  (if l1 < (0 : Int32) then f_X4_operate_j24 σ else (gI σ l0 4 3).bind (fun x1 => (if s0 ≤ x1 then (gR σ l0 4 2).bind (fun x2 => (gI σ l0 4 3).bind (fun x3 => ((aR σ x2 16 (x3 - (1 : Int32))).bind id).bind (fun x4 => (gR σ l0 4 2).bind (fun x5 => (gI σ l0 4 3).bind (fun x6 => ((aR σ x5 16 (x6 - s0)).bind id).bind (fun x7 => (f_X4_faultOf σ l1 x7 x4).bind (fun p8 => (if p8 = (0 : Int32) then xlet (1 : Int32) (fun v9 => (if l1 = (0 : Int32) then (gR σ l0 4 1).bind (fun x24 => (gR σ l0 4 5).bind (fun x25 => (if xk σ x24 0 = true then (f_X0_sum σ x24 x25 x7 x4 (0 : Int32)).bind (fun p26 => f_X4_operate_j456 p26 l0 s0 x7 v9) else none))) else (if l1 = (1 : Int32) then (gR σ l0 4 1).bind (fun x27 => (gR σ l0 4 5).bind (fun x28 => (if xk σ x27 0 = true then (f_X0_sum σ x27 x28 x7 x4 (1 : Int32)).bind (fun p29 => f_X4_operate_j456 p29 l0 s0 x7 v9) else none))) else (if l1 = (2 : Int32) then (gR σ l0 4 1).bind (fun x30 => (gR σ l0 4 5).bind (fun x31 => (if xk σ x30 0 = true then (f_X0_times σ x30 x31 x7 x4).bind (fun p32 => f_X4_operate_j456 p32 l0 s0 x7 v9) else none))) else (if l1 = (3 : Int32) then (gR σ l0 4 1).bind (fun x33 => (gR σ l0 4 5).bind (fun x34 => (if xk σ x33 0 = true then (f_X0_over σ x33 x34 x7 x4).bind (fun p35 => f_X4_operate_j456 p35 l0 s0 x7 v9) else none))) else (if l1 = (4 : Int32) then (gR σ l0 4 1).bind (fun x36 => (gR σ l0 4 5).bind (fun x37 => (if xk σ x36 0 = true then (f_X0_remainder σ x36 x37 x7 x4).bind (fun p38 => f_X4_operate_j456 p38 l0 s0 x7 v9) else none))) else (if l1 = (5 : Int32) then (gR σ l0 4 1).bind (fun x39 => (gR σ l0 4 5).bind (fun x40 => (gR σ x4 2 0).bind (fun x41 => (if xk σ x41 10 = true then (f_X10_clamped σ x41).bind (fun p42 => (if xk σ x39 0 = true then (f_X0_power σ x39 x40 x7 p42).bind (fun p43 => f_X4_operate_j456 p43.2 l0 s0 x7 p43.1) else none)) else none)))) else (if l1 = (6 : Int32) then (gR σ l0 4 5).bind (fun x44 => (gR σ l0 4 1).bind (fun x45 => (if xk σ x45 0 = true then (f_X0_compare σ x45 x7 x4).bind (fun p46 => (if (0 : Int32) ≤ p46.1 then f_X4_operate_j274 p46.2 l0 s0 x7 v9 (0 : Int64) x44 else f_X4_operate_j274 p46.2 l0 s0 x7 v9 (1 : Int64) x44)) else none))) else (if l1 = (7 : Int32) then (gR σ l0 4 5).bind (fun x48 => (if xk σ x7 2 = true then (f_X2_sameAs σ x7 x4).bind (fun p49 => (if p49 = (0 : Int32) then f_X4_operate_j298 σ l0 s0 x7 v9 (0 : Int64) x48 else f_X4_operate_j298 σ l0 s0 x7 v9 (1 : Int64) x48)) else none)) else (if l1 = (8 : Int32) then (gR σ l0 4 5).bind (fun x51 => (gR σ l0 4 1).bind (fun x52 => (if xk σ x52 0 = true then (f_X0_compare σ x52 x7 x4).bind (fun p53 => (if p53.1 ≤ (0 : Int32) then f_X4_operate_j326 p53.2 l0 s0 x7 v9 (0 : Int64) x51 else f_X4_operate_j326 p53.2 l0 s0 x7 v9 (1 : Int64) x51)) else none))) else (if l1 = (9 : Int32) then (gR σ l0 4 5).bind (fun x55 => (if xk σ x7 2 = true then (f_X2_isZero σ x7).bind (fun p56 => (if p56 = (0 : Int32) then (if xk σ x4 2 = true then (f_X2_isZero σ x4).bind (fun p58 => (if p58 = (0 : Int32) then f_X4_operate_j356 σ l0 s0 x7 v9 (1 : Int64) x55 else f_X4_operate_j351 σ l0 s0 x7 v9 x55)) else none) else f_X4_operate_j351 σ l0 s0 x7 v9 x55)) else none)) else (if l1 = (10 : Int32) then (gR σ l0 4 5).bind (fun x59 => (if xk σ x7 2 = true then (f_X2_isZero σ x7).bind (fun p60 => (if p60 = (0 : Int32) then f_X4_operate_j385 σ l0 s0 x7 v9 x59 else (if xk σ x4 2 = true then (f_X2_isZero σ x4).bind (fun p62 => (if p62 = (0 : Int32) then f_X4_operate_j385 σ l0 s0 x7 v9 x59 else f_X4_operate_j386 σ l0 s0 x7 v9 (0 : Int64) x59)) else none))) else none)) else (if l1 = (11 : Int32) then (gR σ l0 4 5).bind (fun x63 => (if xk σ x63 2 = true then (f_X2_copy σ x63 x7).bind (fun p64 => (gR p64 l0 4 5).bind (fun x65 => (gR p64 x65 2 0).bind (fun x66 => (if xk p64 x66 10 = true then (f_X10_flip p64 x66).bind (fun p67 => f_X4_operate_j456 p67 l0 s0 x7 v9) else none)))) else none)) else (if l1 = (12 : Int32) then (gR σ l0 4 5).bind (fun x68 => (if xk σ x7 2 = true then (f_X2_isZero σ x7).bind (fun p69 => (if p69 = (0 : Int32) then f_X4_operate_j431 σ l0 s0 x7 v9 (0 : Int64) x68 else f_X4_operate_j431 σ l0 s0 x7 v9 (1 : Int64) x68)) else none)) else (gR σ l0 4 1).bind (fun x10 => (gR σ l0 4 5).bind (fun x11 => (gR σ x7 2 0).bind (fun x12 => (if xk σ x12 10 = true then (f_X10_clamped σ x12).bind (fun p13 => (if xk σ x10 0 = true then (f_X0_factorial σ x10 x11 p13).bind (fun p14 => f_X4_operate_j456 p14 l0 s0 x7 v9) else none)) else none)))))))))))))))))) else some (p8, σ))))))))) else f_X4_operate_j24 σ)))
set_option maxHeartbeats 4000000 in
set_option maxRecDepth 20000 in
theorem L_X4_operate_j11 {G : xG} {π : Nat → Nat} {d C Z : Nat} {Q : xQ} (σ : xM) (l0 : Nat) (l1 : Int32) (s0 : Int32) {x : (Int32 × xM)} (hf : f_X4_operate_j11 σ l0 l1 s0 = some x) (hR : ∀ g, x = g → Q (.inl (some (.int g.1))) (g.2) π) : xMach G π J_X4_operate (d + 3) C Z 11 [(0, .ref l0), (1, .int l1)] [.int s0] σ Q := by
  unfold f_X4_operate_j11 at hf
  refine xm_istore_n dX4_operate_11 (by decide) (xm_stL (L' := [(2, .int s0), (0, .ref l0), (1, .int l1)]) rfl ?_)
  refine xm_iload_n dX4_operate_12 rfl ?_
  refine xb_if_lt 24 dX4_operate_13 (by decide) hf (fun c hf => ?_) (fun c hf => ?_)
  · exact xm_sub [] rfl (L_X4_operate_j24 σ hf hR)
  · refine xm_aload_n dX4_operate_16 rfl ?_
    refine xb_getI (a := l0) (c := 4) (k := 3) dX4_operate_17 xcl4 (by decide) xw_424 rfl hf (fun x1 ex1 hf => ?_)
    refine xm_iload_n dX4_operate_20 rfl ?_
    refine xb_icmp_ge 26 dX4_operate_21 (by decide) hf (fun c hf => ?_) (fun c hf => ?_)
    · refine xm_aload_n dX4_operate_26 rfl ?_
      refine xb_getR (a := l0) (c := 4) (k := 2) dX4_operate_27 xcl4 (by decide) xw_423 rfl hf (fun x2 ex2 hf => ?_)
      refine xm_aload_n dX4_operate_30 rfl ?_
      refine xb_getI (a := l0) (c := 4) (k := 3) dX4_operate_31 xcl4 (by decide) xw_424 rfl hf (fun x3 ex3 hf => ?_)
      refine xm_iconst dX4_operate_34 (v := 1) (by decide) ?_
      refine xm_isub dX4_operate_35 ?_
      refine xb_aaldS dX4_operate_36 (by decide) hf (fun x4 ex4 hf => ?_)
      refine xm_astore_n dX4_operate_37 (by decide) (xm_stL (L' := [(3, .ref x4), (2, .int s0), (0, .ref l0), (1, .int l1)]) rfl ?_)
      refine xm_aload_n dX4_operate_38 rfl ?_
      refine xb_getR (a := l0) (c := 4) (k := 2) dX4_operate_39 xcl4 (by decide) xw_423 rfl hf (fun x5 ex5 hf => ?_)
      refine xm_aload_n dX4_operate_42 rfl ?_
      refine xb_getI (a := l0) (c := 4) (k := 3) dX4_operate_43 xcl4 (by decide) xw_424 rfl hf (fun x6 ex6 hf => ?_)
      refine xm_iload_n dX4_operate_46 rfl ?_
      refine xm_isub dX4_operate_47 ?_
      refine xb_aaldS dX4_operate_48 (by decide) hf (fun x7 ex7 hf => ?_)
      refine xm_astore dX4_operate_49 (by decide) (xm_stL (L' := [(4, .ref x7), (3, .ref x4), (2, .int s0), (0, .ref l0), (1, .int l1)]) rfl ?_)
      refine xm_iload_n dX4_operate_51 rfl ?_
      refine xm_aload dX4_operate_52 rfl ?_
      refine xm_aload_n dX4_operate_54 rfl ?_
      obtain ⟨p8, ep8, hf⟩ := xbind hf
      refine xb_callS (As := [.int l1, .ref x7, .ref x4]) (v0 := (some (.int p8))) (τ0 := σ) dX4_operate_55 (xc_X4_faultOf _ _) xw_1156 xw_1157 rfl (Nat.le_of_ble_eq_true rfl) rfl (Nat.le_of_ble_eq_true rfl) (fun Q1 hq => m_X4_faultOf (d := d + 0) ep8 (fun g hg => by subst hg; exact hq)) ?_
      refine xm_istore dX4_operate_58 (by decide) (xm_stL (L' := [(5, .int p8), (4, .ref x7), (3, .ref x4), (2, .int s0), (0, .ref l0), (1, .int l1)]) rfl ?_)
      refine xm_iload dX4_operate_60 rfl ?_
      refine xb_if_eq 68 dX4_operate_62 (by decide) hf (fun c hf => ?_) (fun c hf => ?_)
      · refine xm_iconst dX4_operate_68 (v := 1) (by decide) ?_
        refine xb_topi hf (fun v9 ev9 hf => ?_)
        refine xm_istore dX4_operate_69 (by decide) (xm_stL (L' := [(6, .int v9), (5, .int p8), (4, .ref x7), (3, .ref x4), (2, .int s0), (0, .ref l0), (1, .int l1)]) rfl ?_)
        refine xm_iload_n dX4_operate_71 rfl ?_
        refine xb_if hf (fun c hf => ?_) (fun n0 hf => ?_)
        · refine xm_tableIn 140 dX4_operate_72 (by rw [c]; decide) (by rw [c]; decide) (by rw [c]; rfl) (by decide) ?_
          refine xm_aload_n dX4_operate_140 rfl ?_
          refine xb_getR (a := l0) (c := 4) (k := 1) dX4_operate_141 xcl4 (by decide) xw_422 rfl hf (fun x24 ex24 hf => ?_)
          refine xm_aload_n dX4_operate_144 rfl ?_
          refine xb_getR (a := l0) (c := 4) (k := 5) dX4_operate_145 xcl4 (by decide) xw_426 rfl hf (fun x25 ex25 hf => ?_)
          refine xm_aload dX4_operate_148 rfl ?_
          refine xm_aload_n dX4_operate_150 rfl ?_
          refine xm_iconst dX4_operate_151 (v := 0) (by decide) ?_
          refine xb_if hf (fun hb hf => ?_) (fun _ q => nomatch q)
          obtain ⟨p26, ep26, hf⟩ := xbind hf
          refine xb_callV (As := [.ref x25, .ref x7, .ref x4, .int (0 : Int32)]) (v0 := none) (τ0 := p26) dX4_operate_152 (xc_X0_sum _ _) xcl0 xw_1037 xw_1038 xw_1039 hb rfl (Nat.le_of_ble_eq_true rfl) rfl (Nat.le_of_ble_eq_true rfl) (fun Q1 hq => m_X0_sum (d := d + 0) ep26 (fun g hg => by subst hg; exact hq)) ?_
          refine xm_goto 456 dX4_operate_155 (by decide) ?_
          exact xm_sub [5, 4, 2, 0] rfl (L_X4_operate_j456 p26 l0 s0 x7 v9 hf hR)
        refine xb_if hf (fun c hf => ?_) (fun n1 hf => ?_)
        · refine xm_tableIn 158 dX4_operate_72 (by rw [c]; decide) (by rw [c]; decide) (by rw [c]; rfl) (by decide) ?_
          refine xm_aload_n dX4_operate_158 rfl ?_
          refine xb_getR (a := l0) (c := 4) (k := 1) dX4_operate_159 xcl4 (by decide) xw_422 rfl hf (fun x27 ex27 hf => ?_)
          refine xm_aload_n dX4_operate_162 rfl ?_
          refine xb_getR (a := l0) (c := 4) (k := 5) dX4_operate_163 xcl4 (by decide) xw_426 rfl hf (fun x28 ex28 hf => ?_)
          refine xm_aload dX4_operate_166 rfl ?_
          refine xm_aload_n dX4_operate_168 rfl ?_
          refine xm_iconst dX4_operate_169 (v := 1) (by decide) ?_
          refine xb_if hf (fun hb hf => ?_) (fun _ q => nomatch q)
          obtain ⟨p29, ep29, hf⟩ := xbind hf
          refine xb_callV (As := [.ref x28, .ref x7, .ref x4, .int (1 : Int32)]) (v0 := none) (τ0 := p29) dX4_operate_170 (xc_X0_sum _ _) xcl0 xw_1037 xw_1038 xw_1039 hb rfl (Nat.le_of_ble_eq_true rfl) rfl (Nat.le_of_ble_eq_true rfl) (fun Q1 hq => m_X0_sum (d := d + 0) ep29 (fun g hg => by subst hg; exact hq)) ?_
          refine xm_goto 456 dX4_operate_173 (by decide) ?_
          exact xm_sub [5, 4, 2, 0] rfl (L_X4_operate_j456 p29 l0 s0 x7 v9 hf hR)
        refine xb_if hf (fun c hf => ?_) (fun n2 hf => ?_)
        · refine xm_tableIn 176 dX4_operate_72 (by rw [c]; decide) (by rw [c]; decide) (by rw [c]; rfl) (by decide) ?_
          refine xm_aload_n dX4_operate_176 rfl ?_
          refine xb_getR (a := l0) (c := 4) (k := 1) dX4_operate_177 xcl4 (by decide) xw_422 rfl hf (fun x30 ex30 hf => ?_)
          refine xm_aload_n dX4_operate_180 rfl ?_
          refine xb_getR (a := l0) (c := 4) (k := 5) dX4_operate_181 xcl4 (by decide) xw_426 rfl hf (fun x31 ex31 hf => ?_)
          refine xm_aload dX4_operate_184 rfl ?_
          refine xm_aload_n dX4_operate_186 rfl ?_
          refine xb_if hf (fun hb hf => ?_) (fun _ q => nomatch q)
          obtain ⟨p32, ep32, hf⟩ := xbind hf
          refine xb_callV (As := [.ref x31, .ref x7, .ref x4]) (v0 := none) (τ0 := p32) dX4_operate_187 (xc_X0_times _ _) xcl0 xw_1159 xw_1160 xw_1161 hb rfl (Nat.le_of_ble_eq_true rfl) rfl (Nat.le_of_ble_eq_true rfl) (fun Q1 hq => m_X0_times (d := d + 0) ep32 (fun g hg => by subst hg; exact hq)) ?_
          refine xm_goto 456 dX4_operate_190 (by decide) ?_
          exact xm_sub [5, 4, 2, 0] rfl (L_X4_operate_j456 p32 l0 s0 x7 v9 hf hR)
        refine xb_if hf (fun c hf => ?_) (fun n3 hf => ?_)
        · refine xm_tableIn 193 dX4_operate_72 (by rw [c]; decide) (by rw [c]; decide) (by rw [c]; rfl) (by decide) ?_
          refine xm_aload_n dX4_operate_193 rfl ?_
          refine xb_getR (a := l0) (c := 4) (k := 1) dX4_operate_194 xcl4 (by decide) xw_422 rfl hf (fun x33 ex33 hf => ?_)
          refine xm_aload_n dX4_operate_197 rfl ?_
          refine xb_getR (a := l0) (c := 4) (k := 5) dX4_operate_198 xcl4 (by decide) xw_426 rfl hf (fun x34 ex34 hf => ?_)
          refine xm_aload dX4_operate_201 rfl ?_
          refine xm_aload_n dX4_operate_203 rfl ?_
          refine xb_if hf (fun hb hf => ?_) (fun _ q => nomatch q)
          obtain ⟨p35, ep35, hf⟩ := xbind hf
          refine xb_callV (As := [.ref x34, .ref x7, .ref x4]) (v0 := none) (τ0 := p35) dX4_operate_204 (xc_X0_over _ _) xcl0 xw_1163 xw_1164 xw_1165 hb rfl (Nat.le_of_ble_eq_true rfl) rfl (Nat.le_of_ble_eq_true rfl) (fun Q1 hq => m_X0_over (d := d + 0) ep35 (fun g hg => by subst hg; exact hq)) ?_
          refine xm_goto 456 dX4_operate_207 (by decide) ?_
          exact xm_sub [5, 4, 2, 0] rfl (L_X4_operate_j456 p35 l0 s0 x7 v9 hf hR)
        refine xb_if hf (fun c hf => ?_) (fun n4 hf => ?_)
        · refine xm_tableIn 210 dX4_operate_72 (by rw [c]; decide) (by rw [c]; decide) (by rw [c]; rfl) (by decide) ?_
          refine xm_aload_n dX4_operate_210 rfl ?_
          refine xb_getR (a := l0) (c := 4) (k := 1) dX4_operate_211 xcl4 (by decide) xw_422 rfl hf (fun x36 ex36 hf => ?_)
          refine xm_aload_n dX4_operate_214 rfl ?_
          refine xb_getR (a := l0) (c := 4) (k := 5) dX4_operate_215 xcl4 (by decide) xw_426 rfl hf (fun x37 ex37 hf => ?_)
          refine xm_aload dX4_operate_218 rfl ?_
          refine xm_aload_n dX4_operate_220 rfl ?_
          refine xb_if hf (fun hb hf => ?_) (fun _ q => nomatch q)
          obtain ⟨p38, ep38, hf⟩ := xbind hf
          refine xb_callV (As := [.ref x37, .ref x7, .ref x4]) (v0 := none) (τ0 := p38) dX4_operate_221 (xc_X0_remainder _ _) xcl0 xw_1167 xw_1168 xw_1169 hb rfl (Nat.le_of_ble_eq_true rfl) rfl (Nat.le_of_ble_eq_true rfl) (fun Q1 hq => m_X0_remainder (d := d + 0) ep38 (fun g hg => by subst hg; exact hq)) ?_
          refine xm_goto 456 dX4_operate_224 (by decide) ?_
          exact xm_sub [5, 4, 2, 0] rfl (L_X4_operate_j456 p38 l0 s0 x7 v9 hf hR)
        refine xb_if hf (fun c hf => ?_) (fun n5 hf => ?_)
        · refine xm_tableIn 227 dX4_operate_72 (by rw [c]; decide) (by rw [c]; decide) (by rw [c]; rfl) (by decide) ?_
          refine xm_aload_n dX4_operate_227 rfl ?_
          refine xb_getR (a := l0) (c := 4) (k := 1) dX4_operate_228 xcl4 (by decide) xw_422 rfl hf (fun x39 ex39 hf => ?_)
          refine xm_aload_n dX4_operate_231 rfl ?_
          refine xb_getR (a := l0) (c := 4) (k := 5) dX4_operate_232 xcl4 (by decide) xw_426 rfl hf (fun x40 ex40 hf => ?_)
          refine xm_aload dX4_operate_235 rfl ?_
          refine xm_aload_n dX4_operate_237 rfl ?_
          refine xb_getR (a := x4) (c := 2) (k := 0) dX4_operate_238 xcl2 (by decide) xw_259 rfl hf (fun x41 ex41 hf => ?_)
          refine xb_if hf (fun hb hf => ?_) (fun _ q => nomatch q)
          obtain ⟨p42, ep42, hf⟩ := xbind hf
          refine xb_callV (As := []) (v0 := (some (.int p42))) (τ0 := σ) dX4_operate_241 (xc_X10_clamped _ _) xcl10 xw_1060 xw_1061 xw_1062 hb rfl (Nat.le_of_ble_eq_true rfl) rfl (Nat.le_of_ble_eq_true rfl) (fun Q1 hq => m_X10_clamped (d := d + 2) ep42 (fun g hg => by subst hg; exact hq)) ?_
          refine xb_if hf (fun hb hf => ?_) (fun _ q => nomatch q)
          obtain ⟨p43, ep43, hf⟩ := xbind hf
          refine xb_callV (As := [.ref x40, .ref x7, .int p42]) (v0 := (some (.int p43.1))) (τ0 := p43.2) dX4_operate_244 (xc_X0_power _ _) xcl0 xw_1171 xw_1172 xw_1173 hb rfl (Nat.le_of_ble_eq_true rfl) rfl (Nat.le_of_ble_eq_true rfl) (fun Q1 hq => m_X0_power (d := d + 0) ep43 (fun g hg => by subst hg; exact hq)) ?_
          refine xm_istore dX4_operate_247 (by decide) (xm_stL (L' := [(6, .int p43.1), (5, .int p8), (4, .ref x7), (3, .ref x4), (2, .int s0), (0, .ref l0), (1, .int l1)]) rfl ?_)
          refine xm_goto 456 dX4_operate_249 (by decide) ?_
          exact xm_sub [5, 4, 2, 0] rfl (L_X4_operate_j456 p43.2 l0 s0 x7 p43.1 hf hR)
        refine xb_if hf (fun c hf => ?_) (fun n6 hf => ?_)
        · refine xm_tableIn 252 dX4_operate_72 (by rw [c]; decide) (by rw [c]; decide) (by rw [c]; rfl) (by decide) ?_
          refine xm_aload_n dX4_operate_252 rfl ?_
          refine xb_getR (a := l0) (c := 4) (k := 5) dX4_operate_253 xcl4 (by decide) xw_426 rfl hf (fun x44 ex44 hf => ?_)
          refine xm_aload_n dX4_operate_256 rfl ?_
          refine xb_getR (a := l0) (c := 4) (k := 1) dX4_operate_257 xcl4 (by decide) xw_422 rfl hf (fun x45 ex45 hf => ?_)
          refine xm_aload dX4_operate_260 rfl ?_
          refine xm_aload_n dX4_operate_262 rfl ?_
          refine xb_if hf (fun hb hf => ?_) (fun _ q => nomatch q)
          obtain ⟨p46, ep46, hf⟩ := xbind hf
          refine xb_callV (As := [.ref x7, .ref x4]) (v0 := (some (.int p46.1))) (τ0 := p46.2) dX4_operate_263 (xc_X0_compare _ _) xcl0 xw_1176 xw_1177 xw_1178 hb rfl (Nat.le_of_ble_eq_true rfl) rfl (Nat.le_of_ble_eq_true rfl) (fun Q1 hq => m_X0_compare (d := d + 0) ep46 (fun g hg => by subst hg; exact hq)) ?_
          refine xb_if_ge 273 dX4_operate_266 (by decide) hf (fun c hf => ?_) (fun c hf => ?_)
          · refine xm_lconst dX4_operate_273 (v := 0) (by decide) ?_
            exact xm_sub [5, 4, 2, 0] rfl (L_X4_operate_j274 p46.2 l0 s0 x7 v9 (0 : Int64) x44 hf hR)
          · refine xm_lconst dX4_operate_269 (v := 1) (by decide) ?_
            refine xm_goto 274 dX4_operate_270 (by decide) ?_
            exact xm_sub [5, 4, 2, 0] rfl (L_X4_operate_j274 p46.2 l0 s0 x7 v9 (1 : Int64) x44 hf hR)
        refine xb_if hf (fun c hf => ?_) (fun n7 hf => ?_)
        · refine xm_tableIn 280 dX4_operate_72 (by rw [c]; decide) (by rw [c]; decide) (by rw [c]; rfl) (by decide) ?_
          refine xm_aload_n dX4_operate_280 rfl ?_
          refine xb_getR (a := l0) (c := 4) (k := 5) dX4_operate_281 xcl4 (by decide) xw_426 rfl hf (fun x48 ex48 hf => ?_)
          refine xm_aload dX4_operate_284 rfl ?_
          refine xm_aload_n dX4_operate_286 rfl ?_
          refine xb_if hf (fun hb hf => ?_) (fun _ q => nomatch q)
          obtain ⟨p49, ep49, hf⟩ := xbind hf
          refine xb_callV (As := [.ref x4]) (v0 := (some (.int p49))) (τ0 := σ) dX4_operate_287 (xc_X2_sameAs _ _) xcl2 xw_1183 xw_1184 xw_1185 hb rfl (Nat.le_of_ble_eq_true rfl) rfl (Nat.le_of_ble_eq_true rfl) (fun Q1 hq => m_X2_sameAs (d := d + 0) ep49 (fun g hg => by subst hg; exact hq)) ?_
          refine xb_if_eq 297 dX4_operate_290 (by decide) hf (fun c hf => ?_) (fun c hf => ?_)
          · refine xm_lconst dX4_operate_297 (v := 0) (by decide) ?_
            exact xm_sub [5, 4, 2, 0] rfl (L_X4_operate_j298 σ l0 s0 x7 v9 (0 : Int64) x48 hf hR)
          · refine xm_lconst dX4_operate_293 (v := 1) (by decide) ?_
            refine xm_goto 298 dX4_operate_294 (by decide) ?_
            exact xm_sub [5, 4, 2, 0] rfl (L_X4_operate_j298 σ l0 s0 x7 v9 (1 : Int64) x48 hf hR)
        refine xb_if hf (fun c hf => ?_) (fun n8 hf => ?_)
        · refine xm_tableIn 304 dX4_operate_72 (by rw [c]; decide) (by rw [c]; decide) (by rw [c]; rfl) (by decide) ?_
          refine xm_aload_n dX4_operate_304 rfl ?_
          refine xb_getR (a := l0) (c := 4) (k := 5) dX4_operate_305 xcl4 (by decide) xw_426 rfl hf (fun x51 ex51 hf => ?_)
          refine xm_aload_n dX4_operate_308 rfl ?_
          refine xb_getR (a := l0) (c := 4) (k := 1) dX4_operate_309 xcl4 (by decide) xw_422 rfl hf (fun x52 ex52 hf => ?_)
          refine xm_aload dX4_operate_312 rfl ?_
          refine xm_aload_n dX4_operate_314 rfl ?_
          refine xb_if hf (fun hb hf => ?_) (fun _ q => nomatch q)
          obtain ⟨p53, ep53, hf⟩ := xbind hf
          refine xb_callV (As := [.ref x7, .ref x4]) (v0 := (some (.int p53.1))) (τ0 := p53.2) dX4_operate_315 (xc_X0_compare _ _) xcl0 xw_1176 xw_1177 xw_1178 hb rfl (Nat.le_of_ble_eq_true rfl) rfl (Nat.le_of_ble_eq_true rfl) (fun Q1 hq => m_X0_compare (d := d + 0) ep53 (fun g hg => by subst hg; exact hq)) ?_
          refine xb_if_le 325 dX4_operate_318 (by decide) hf (fun c hf => ?_) (fun c hf => ?_)
          · refine xm_lconst dX4_operate_325 (v := 0) (by decide) ?_
            exact xm_sub [5, 4, 2, 0] rfl (L_X4_operate_j326 p53.2 l0 s0 x7 v9 (0 : Int64) x51 hf hR)
          · refine xm_lconst dX4_operate_321 (v := 1) (by decide) ?_
            refine xm_goto 326 dX4_operate_322 (by decide) ?_
            exact xm_sub [5, 4, 2, 0] rfl (L_X4_operate_j326 p53.2 l0 s0 x7 v9 (1 : Int64) x51 hf hR)
        refine xb_if hf (fun c hf => ?_) (fun n9 hf => ?_)
        · refine xm_tableIn 332 dX4_operate_72 (by rw [c]; decide) (by rw [c]; decide) (by rw [c]; rfl) (by decide) ?_
          refine xm_aload_n dX4_operate_332 rfl ?_
          refine xb_getR (a := l0) (c := 4) (k := 5) dX4_operate_333 xcl4 (by decide) xw_426 rfl hf (fun x55 ex55 hf => ?_)
          refine xm_aload dX4_operate_336 rfl ?_
          refine xb_if hf (fun hb hf => ?_) (fun _ q => nomatch q)
          obtain ⟨p56, ep56, hf⟩ := xbind hf
          refine xb_callV (As := []) (v0 := (some (.int p56))) (τ0 := σ) dX4_operate_338 (xc_X2_isZero _ _) xcl2 xw_989 xw_990 xw_991 hb rfl (Nat.le_of_ble_eq_true rfl) rfl (Nat.le_of_ble_eq_true rfl) (fun Q1 hq => m_X2_isZero (d := d + 1) ep56 (fun g hg => by subst hg; exact hq)) ?_
          refine xb_if_ne 351 dX4_operate_341 (by decide) hf (fun c hf => ?_) (fun c hf => ?_)
          · exact xm_sub [5, 4, 2, 0] rfl (L_X4_operate_j351 σ l0 s0 x7 v9 x55 hf hR)
          · refine xm_aload_n dX4_operate_344 rfl ?_
            refine xb_if hf (fun hb hf => ?_) (fun _ q => nomatch q)
            obtain ⟨p58, ep58, hf⟩ := xbind hf
            refine xb_callV (As := []) (v0 := (some (.int p58))) (τ0 := σ) dX4_operate_345 (xc_X2_isZero _ _) xcl2 xw_989 xw_990 xw_991 hb rfl (Nat.le_of_ble_eq_true rfl) rfl (Nat.le_of_ble_eq_true rfl) (fun Q1 hq => m_X2_isZero (d := d + 1) ep58 (fun g hg => by subst hg; exact hq)) ?_
            refine xb_if_eq 355 dX4_operate_348 (by decide) hf (fun c hf => ?_) (fun c hf => ?_)
            · refine xm_lconst dX4_operate_355 (v := 1) (by decide) ?_
              exact xm_sub [5, 4, 2, 0] rfl (L_X4_operate_j356 σ l0 s0 x7 v9 (1 : Int64) x55 hf hR)
            · exact xm_sub [5, 4, 2, 0] rfl (L_X4_operate_j351 σ l0 s0 x7 v9 x55 hf hR)
        refine xb_if hf (fun c hf => ?_) (fun n10 hf => ?_)
        · refine xm_tableIn 362 dX4_operate_72 (by rw [c]; decide) (by rw [c]; decide) (by rw [c]; rfl) (by decide) ?_
          refine xm_aload_n dX4_operate_362 rfl ?_
          refine xb_getR (a := l0) (c := 4) (k := 5) dX4_operate_363 xcl4 (by decide) xw_426 rfl hf (fun x59 ex59 hf => ?_)
          refine xm_aload dX4_operate_366 rfl ?_
          refine xb_if hf (fun hb hf => ?_) (fun _ q => nomatch q)
          obtain ⟨p60, ep60, hf⟩ := xbind hf
          refine xb_callV (As := []) (v0 := (some (.int p60))) (τ0 := σ) dX4_operate_368 (xc_X2_isZero _ _) xcl2 xw_989 xw_990 xw_991 hb rfl (Nat.le_of_ble_eq_true rfl) rfl (Nat.le_of_ble_eq_true rfl) (fun Q1 hq => m_X2_isZero (d := d + 1) ep60 (fun g hg => by subst hg; exact hq)) ?_
          refine xb_if_eq 385 dX4_operate_371 (by decide) hf (fun c hf => ?_) (fun c hf => ?_)
          · exact xm_sub [5, 4, 2, 0] rfl (L_X4_operate_j385 σ l0 s0 x7 v9 x59 hf hR)
          · refine xm_aload_n dX4_operate_374 rfl ?_
            refine xb_if hf (fun hb hf => ?_) (fun _ q => nomatch q)
            obtain ⟨p62, ep62, hf⟩ := xbind hf
            refine xb_callV (As := []) (v0 := (some (.int p62))) (τ0 := σ) dX4_operate_375 (xc_X2_isZero _ _) xcl2 xw_989 xw_990 xw_991 hb rfl (Nat.le_of_ble_eq_true rfl) rfl (Nat.le_of_ble_eq_true rfl) (fun Q1 hq => m_X2_isZero (d := d + 1) ep62 (fun g hg => by subst hg; exact hq)) ?_
            refine xb_if_eq 385 dX4_operate_378 (by decide) hf (fun c hf => ?_) (fun c hf => ?_)
            · exact xm_sub [5, 4, 2, 0] rfl (L_X4_operate_j385 σ l0 s0 x7 v9 x59 hf hR)
            · refine xm_lconst dX4_operate_381 (v := 0) (by decide) ?_
              refine xm_goto 386 dX4_operate_382 (by decide) ?_
              exact xm_sub [5, 4, 2, 0] rfl (L_X4_operate_j386 σ l0 s0 x7 v9 (0 : Int64) x59 hf hR)
        refine xb_if hf (fun c hf => ?_) (fun n11 hf => ?_)
        · refine xm_tableIn 392 dX4_operate_72 (by rw [c]; decide) (by rw [c]; decide) (by rw [c]; rfl) (by decide) ?_
          refine xm_aload_n dX4_operate_392 rfl ?_
          refine xb_getR (a := l0) (c := 4) (k := 5) dX4_operate_393 xcl4 (by decide) xw_426 rfl hf (fun x63 ex63 hf => ?_)
          refine xm_aload dX4_operate_396 rfl ?_
          refine xb_if hf (fun hb hf => ?_) (fun _ q => nomatch q)
          obtain ⟨p64, ep64, hf⟩ := xbind hf
          refine xb_callV (As := [.ref x7]) (v0 := none) (τ0 := p64) dX4_operate_398 (xc_X2_copy _ _) xcl2 xw_964 xw_965 xw_966 hb rfl (Nat.le_of_ble_eq_true rfl) rfl (Nat.le_of_ble_eq_true rfl) (fun Q1 hq => m_X2_copy (d := d + 0) ep64 (fun g hg => by subst hg; exact hq)) ?_
          refine xm_aload_n dX4_operate_401 rfl ?_
          refine xb_getR (a := l0) (c := 4) (k := 5) dX4_operate_402 xcl4 (by decide) xw_426 rfl hf (fun x65 ex65 hf => ?_)
          refine xb_getR (a := x65) (c := 2) (k := 0) dX4_operate_405 xcl2 (by decide) xw_259 rfl hf (fun x66 ex66 hf => ?_)
          refine xb_if hf (fun hb hf => ?_) (fun _ q => nomatch q)
          obtain ⟨p67, ep67, hf⟩ := xbind hf
          refine xb_callV (As := []) (v0 := none) (τ0 := p67) dX4_operate_408 (xc_X10_flip _ _) xcl10 xw_1188 xw_1086 xw_1087 hb rfl (Nat.le_of_ble_eq_true rfl) rfl (Nat.le_of_ble_eq_true rfl) (fun Q1 hq => m_X10_flip (d := d + 2) ep67 (fun g hg => by subst hg; exact hq)) ?_
          refine xm_goto 456 dX4_operate_411 (by decide) ?_
          exact xm_sub [5, 4, 2, 0] rfl (L_X4_operate_j456 p67 l0 s0 x7 v9 hf hR)
        refine xb_if hf (fun c hf => ?_) (fun n12 hf => ?_)
        · refine xm_tableIn 414 dX4_operate_72 (by rw [c]; decide) (by rw [c]; decide) (by rw [c]; rfl) (by decide) ?_
          refine xm_aload_n dX4_operate_414 rfl ?_
          refine xb_getR (a := l0) (c := 4) (k := 5) dX4_operate_415 xcl4 (by decide) xw_426 rfl hf (fun x68 ex68 hf => ?_)
          refine xm_aload dX4_operate_418 rfl ?_
          refine xb_if hf (fun hb hf => ?_) (fun _ q => nomatch q)
          obtain ⟨p69, ep69, hf⟩ := xbind hf
          refine xb_callV (As := []) (v0 := (some (.int p69))) (τ0 := σ) dX4_operate_420 (xc_X2_isZero _ _) xcl2 xw_989 xw_990 xw_991 hb rfl (Nat.le_of_ble_eq_true rfl) rfl (Nat.le_of_ble_eq_true rfl) (fun Q1 hq => m_X2_isZero (d := d + 1) ep69 (fun g hg => by subst hg; exact hq)) ?_
          refine xb_if_eq 430 dX4_operate_423 (by decide) hf (fun c hf => ?_) (fun c hf => ?_)
          · refine xm_lconst dX4_operate_430 (v := 0) (by decide) ?_
            exact xm_sub [5, 4, 2, 0] rfl (L_X4_operate_j431 σ l0 s0 x7 v9 (0 : Int64) x68 hf hR)
          · refine xm_lconst dX4_operate_426 (v := 1) (by decide) ?_
            refine xm_goto 431 dX4_operate_427 (by decide) ?_
            exact xm_sub [5, 4, 2, 0] rfl (L_X4_operate_j431 σ l0 s0 x7 v9 (1 : Int64) x68 hf hR)
        refine xm_tableOut 437 dX4_operate_72 (by have q0 := lv_neT (a := 0) n0 (by decide); have q1 := lv_neT (a := 1) n1 (by decide); have q2 := lv_neT (a := 2) n2 (by decide); have q3 := lv_neT (a := 3) n3 (by decide); have q4 := lv_neT (a := 4) n4 (by decide); have q5 := lv_neT (a := 5) n5 (by decide); have q6 := lv_neT (a := 6) n6 (by decide); have q7 := lv_neT (a := 7) n7 (by decide); have q8 := lv_neT (a := 8) n8 (by decide); have q9 := lv_neT (a := 9) n9 (by decide); have q10 := lv_neT (a := 10) n10 (by decide); have q11 := lv_neT (a := 11) n11 (by decide); have q12 := lv_neT (a := 12) n12 (by decide); omega) (by decide) ?_
        refine xm_aload_n dX4_operate_437 rfl ?_
        refine xb_getR (a := l0) (c := 4) (k := 1) dX4_operate_438 xcl4 (by decide) xw_422 rfl hf (fun x10 ex10 hf => ?_)
        refine xm_aload_n dX4_operate_441 rfl ?_
        refine xb_getR (a := l0) (c := 4) (k := 5) dX4_operate_442 xcl4 (by decide) xw_426 rfl hf (fun x11 ex11 hf => ?_)
        refine xm_aload dX4_operate_445 rfl ?_
        refine xb_getR (a := x7) (c := 2) (k := 0) dX4_operate_447 xcl2 (by decide) xw_259 rfl hf (fun x12 ex12 hf => ?_)
        refine xb_if hf (fun hb hf => ?_) (fun _ q => nomatch q)
        obtain ⟨p13, ep13, hf⟩ := xbind hf
        refine xb_callV (As := []) (v0 := (some (.int p13))) (τ0 := σ) dX4_operate_450 (xc_X10_clamped _ _) xcl10 xw_1060 xw_1061 xw_1062 hb rfl (Nat.le_of_ble_eq_true rfl) rfl (Nat.le_of_ble_eq_true rfl) (fun Q1 hq => m_X10_clamped (d := d + 2) ep13 (fun g hg => by subst hg; exact hq)) ?_
        refine xb_if hf (fun hb hf => ?_) (fun _ q => nomatch q)
        obtain ⟨p14, ep14, hf⟩ := xbind hf
        refine xb_callV (As := [.ref x11, .int p13]) (v0 := none) (τ0 := p14) dX4_operate_453 (xc_X0_factorial _ _) xcl0 xw_1189 xw_1190 xw_1191 hb rfl (Nat.le_of_ble_eq_true rfl) rfl (Nat.le_of_ble_eq_true rfl) (fun Q1 hq => m_X0_factorial (d := d + 0) ep14 (fun g hg => by subst hg; exact hq)) ?_
        exact xm_sub [5, 4, 2, 0] rfl (L_X4_operate_j456 p14 l0 s0 x7 v9 hf hR)
      · refine xm_iload dX4_operate_65 rfl ?_
        cases hf
        exact xm_iret dX4_operate_67 rfl (hR _ rfl)
    · exact xm_sub [] rfl (L_X4_operate_j24 σ hf hR)
def f_X4_operate (σ : xM) (l0 : Nat) (l1 : Int32) : Option (Int32 × xM) :=
  (if l1 < (11 : Int32) then f_X4_operate_j11 σ l0 l1 (2 : Int32) else f_X4_operate_j11 σ l0 l1 (1 : Int32))
set_option maxHeartbeats 4000000 in
set_option maxRecDepth 20000 in
theorem m_X4_operate {G : xG} {π : Nat → Nat} {d C Z : Nat} {Q : xQ} {σ : xM} {l0 : Nat} {l1 : Int32} {x : (Int32 × xM)} (hf : f_X4_operate σ l0 l1 = some x) (hR : ∀ g, x = g → Q (.inl (some (.int g.1))) (g.2) π) : xMach G π J_X4_operate (d + 3) C Z 0 (lv_args 0 [.ref l0, .int l1]) [] σ Q := by
  unfold f_X4_operate at hf
  refine xm_stL (L' := [(0, .ref l0), (1, .int l1)]) rfl ?_
  refine xm_iload_n dX4_operate_0 rfl ?_
  refine xm_bipush dX4_operate_1 (v := 11) (by decide) ?_
  refine xb_icmp_lt 10 dX4_operate_3 (by decide) hf (fun c hf => ?_) (fun c hf => ?_)
  · refine xm_iconst dX4_operate_10 (v := 2) (by decide) ?_
    exact xm_sub [0, 1] rfl (L_X4_operate_j11 σ l0 l1 (2 : Int32) hf hR)
  · refine xm_iconst dX4_operate_6 (v := 1) (by decide) ?_
    refine xm_goto 11 dX4_operate_7 (by decide) ?_
    exact xm_sub [0, 1] rfl (L_X4_operate_j11 σ l0 l1 (1 : Int32) hf hR)
-- Rankwise$Machine.give(LRankwise$Tree;II)I
def f_X4_give_j20 (σ : xM)  : Option (Int32 × xM) :=
  some ((9 : Int32), σ)
set_option maxHeartbeats 4000000 in
set_option maxRecDepth 20000 in
theorem L_X4_give_j20 {G : xG} {π : Nat → Nat} {d C Z : Nat} {Q : xQ} (σ : xM)  {x : (Int32 × xM)} (hf : f_X4_give_j20 σ = some x) (hR : ∀ g, x = g → Q (.inl (some (.int g.1))) (g.2) π) : xMach G π J_X4_give (d + 4) C Z 20 [] [] σ Q := by
  unfold f_X4_give_j20 at hf
  refine xm_bipush dX4_give_20 (v := 9) (by decide) ?_
  cases hf
  exact xm_iret dX4_give_22 rfl (hR _ rfl)
def f_X4_give_j171 (σ : xM) (s0 : Int32) : Option (Int32 × xM) :=
  some (s0, σ)
set_option maxHeartbeats 4000000 in
set_option maxRecDepth 20000 in
theorem L_X4_give_j171 {G : xG} {π : Nat → Nat} {d C Z : Nat} {Q : xQ} (σ : xM) (s0 : Int32) {x : (Int32 × xM)} (hf : f_X4_give_j171 σ s0 = some x) (hR : ∀ g, x = g → Q (.inl (some (.int g.1))) (g.2) π) : xMach G π J_X4_give (d + 4) C Z 171 [] [.int s0] σ Q := by
  unfold f_X4_give_j171 at hf
  cases hf
  exact xm_iret dX4_give_171 rfl (hR _ rfl)
def f_X4_give (σ : xM) (l0 : Nat) (l1 : Nat) (l2 : Int32) (l3 : Int32) : Option (Int32 × xM) :=
  (gI σ l0 4 4).bind (fun x1 => (if (200 : Int32) ≤ x1 then f_X4_give_j20 σ else (gI σ l0 4 3).bind (fun x2 => (if x2 < (240 : Int32) then (gI σ l0 4 4).bind (fun x3 => (sI σ l0 4 4 (x3 + (1 : Int32))).bind (fun σ4 => (gR σ4 l1 9 1).bind (fun x5 => (aI σ4 x5 14 l2).bind (fun x6 => (gR σ4 l1 9 0).bind (fun x7 => (aI σ4 x7 14 l2).bind (fun x8 => (if x8 = (0 : Int32) then (gR σ4 l0 4 2).bind (fun x17 => (gI σ4 l0 4 3).bind (fun x18 => ((aR σ4 x17 16 x18).bind id).bind (fun x19 => (if xk σ4 x19 2 = true then (f_X2_set σ4 x19 ((x6).toInt64)).bind (fun p20 => (gI p20 l0 4 3).bind (fun x21 => (sI p20 l0 4 3 (x21 + (1 : Int32))).bind (fun σ22 => some ((0 : Int32), σ22)))) else none)))) else (if x8 = (1 : Int32) then (if xk σ4 l0 4 = true then (f_X4_giveName σ4 l0 x6 l3).bind (fun p23 => some (p23.1, p23.2)) else none) else (if x8 = (2 : Int32) then (gR σ4 l1 9 3).bind (fun x24 => (aI σ4 x24 14 l2).bind (fun x25 => (if xk σ4 l0 4 = true then (f_X4_openCall σ4 l0 (x6 - (97 : Int32)) x25).bind (fun p26 => some (p26.1, p26.2)) else none))) else (gR σ4 l0 4 0).bind (fun x9 => (gR σ4 l1 9 2).bind (fun x10 => (aI σ4 x10 14 l2).bind (fun x11 => (if xk σ4 x9 1 = true then (f_X1_meaning σ4 x9 x6 x11).bind (fun p12 => (if p12 < (100 : Int32) then (if xk σ4 l0 4 = true then (f_X4_operate σ4 l0 p12).bind (fun p13 => f_X4_give_j171 p13.2 p13.1) else none) else (gR σ4 l1 9 3).bind (fun x14 => (aI σ4 x14 14 l2).bind (fun x15 => (if xk σ4 l0 4 = true then (f_X4_openCall σ4 l0 (p12 - (100 : Int32)) x15).bind (fun p16 => f_X4_give_j171 p16.2 p16.1) else none))))) else none))))))))))))) else f_X4_give_j20 σ))))
set_option maxHeartbeats 4000000 in
set_option maxRecDepth 20000 in
theorem m_X4_give {G : xG} {π : Nat → Nat} {d C Z : Nat} {Q : xQ} {σ : xM} {l0 : Nat} {l1 : Nat} {l2 : Int32} {l3 : Int32} {x : (Int32 × xM)} (hf : f_X4_give σ l0 l1 l2 l3 = some x) (hR : ∀ g, x = g → Q (.inl (some (.int g.1))) (g.2) π) : xMach G π J_X4_give (d + 4) C Z 0 (lv_args 0 [.ref l0, .ref l1, .int l2, .int l3]) [] σ Q := by
  unfold f_X4_give at hf
  refine xm_stL (L' := [(0, .ref l0), (1, .ref l1), (2, .int l2), (3, .int l3)]) rfl ?_
  refine xm_aload_n dX4_give_0 rfl ?_
  refine xb_getI (a := l0) (c := 4) (k := 4) dX4_give_1 xcl4 (by decide) xw_425 rfl hf (fun x1 ex1 hf => ?_)
  refine xm_sipush dX4_give_4 (v := 200) (by decide) ?_
  refine xb_icmp_ge 20 dX4_give_7 (by decide) hf (fun c hf => ?_) (fun c hf => ?_)
  · exact xm_sub [] rfl (L_X4_give_j20 σ hf hR)
  · refine xm_aload_n dX4_give_10 rfl ?_
    refine xb_getI (a := l0) (c := 4) (k := 3) dX4_give_11 xcl4 (by decide) xw_424 rfl hf (fun x2 ex2 hf => ?_)
    refine xm_sipush dX4_give_14 (v := 240) (by decide) ?_
    refine xb_icmp_lt 23 dX4_give_17 (by decide) hf (fun c hf => ?_) (fun c hf => ?_)
    · refine xm_aload_n dX4_give_23 rfl ?_
      refine xm_dup dX4_give_24 rfl ?_
      refine xb_getI (a := l0) (c := 4) (k := 4) dX4_give_25 xcl4 (by decide) xw_425 rfl hf (fun x3 ex3 hf => ?_)
      refine xm_iconst dX4_give_28 (v := 1) (by decide) ?_
      refine xm_iadd dX4_give_29 ?_
      refine xb_putI (a := l0) (c := 4) (k := 4) dX4_give_30 xcl4 (by decide) xw_425 rfl rfl hf (fun σ4 eσ4 hf => ?_)
      refine xm_aload_n dX4_give_33 rfl ?_
      refine xb_getR (a := l1) (c := 9) (k := 1) dX4_give_34 xcl9 (by decide) xw_202 rfl hf (fun x5 ex5 hf => ?_)
      refine xm_iload_n dX4_give_37 rfl ?_
      refine xb_iald dX4_give_38 hf (fun x6 ex6 hf => ?_)
      refine xm_istore dX4_give_39 (by decide) (xm_stL (L' := [(4, .int x6), (0, .ref l0), (1, .ref l1), (2, .int l2), (3, .int l3)]) rfl ?_)
      refine xm_aload_n dX4_give_41 rfl ?_
      refine xb_getR (a := l1) (c := 9) (k := 0) dX4_give_42 xcl9 (by decide) xw_196 rfl hf (fun x7 ex7 hf => ?_)
      refine xm_iload_n dX4_give_45 rfl ?_
      refine xb_iald dX4_give_46 hf (fun x8 ex8 hf => ?_)
      refine xb_if hf (fun c hf => ?_) (fun n0 hf => ?_)
      · refine xm_tableIn 72 dX4_give_47 (by rw [c]; decide) (by rw [c]; decide) (by rw [c]; rfl) (by decide) ?_
        refine xm_aload_n dX4_give_72 rfl ?_
        refine xb_getR (a := l0) (c := 4) (k := 2) dX4_give_73 xcl4 (by decide) xw_423 rfl hf (fun x17 ex17 hf => ?_)
        refine xm_aload_n dX4_give_76 rfl ?_
        refine xb_getI (a := l0) (c := 4) (k := 3) dX4_give_77 xcl4 (by decide) xw_424 rfl hf (fun x18 ex18 hf => ?_)
        refine xb_aaldS dX4_give_80 (by decide) hf (fun x19 ex19 hf => ?_)
        refine xm_iload dX4_give_81 rfl ?_
        refine xm_i2l dX4_give_83 rfl ?_
        refine xb_if hf (fun hb hf => ?_) (fun _ q => nomatch q)
        obtain ⟨p20, ep20, hf⟩ := xbind hf
        refine xb_callV (As := [.long ((x6).toInt64)]) (v0 := none) (τ0 := p20) dX4_give_84 (xc_X2_set _ _) xcl2 xw_1069 xw_1070 xw_1071 hb rfl (Nat.le_of_ble_eq_true rfl) rfl (Nat.le_of_ble_eq_true rfl) (fun Q1 hq => m_X2_set (d := d + 2) ep20 (fun g hg => by subst hg; exact hq)) ?_
        refine xm_aload_n dX4_give_87 rfl ?_
        refine xm_dup dX4_give_88 rfl ?_
        refine xb_getI (a := l0) (c := 4) (k := 3) dX4_give_89 xcl4 (by decide) xw_424 rfl hf (fun x21 ex21 hf => ?_)
        refine xm_iconst dX4_give_92 (v := 1) (by decide) ?_
        refine xm_iadd dX4_give_93 ?_
        refine xb_putI (a := l0) (c := 4) (k := 3) dX4_give_94 xcl4 (by decide) xw_424 rfl rfl hf (fun σ22 eσ22 hf => ?_)
        refine xm_iconst dX4_give_97 (v := 0) (by decide) ?_
        cases hf
        exact xm_iret dX4_give_98 rfl (hR _ rfl)
      refine xb_if hf (fun c hf => ?_) (fun n1 hf => ?_)
      · refine xm_tableIn 99 dX4_give_47 (by rw [c]; decide) (by rw [c]; decide) (by rw [c]; rfl) (by decide) ?_
        refine xm_aload_n dX4_give_99 rfl ?_
        refine xm_iload dX4_give_100 rfl ?_
        refine xm_iload_n dX4_give_102 rfl ?_
        refine xb_if hf (fun hb hf => ?_) (fun _ q => nomatch q)
        obtain ⟨p23, ep23, hf⟩ := xbind hf
        refine xb_callV (As := [.int x6, .int l3]) (v0 := (some (.int p23.1))) (τ0 := p23.2) dX4_give_103 (xc_X4_giveName _ _) xcl4 xw_1139 xw_1141 xs_38 hb rfl (Nat.le_of_ble_eq_true rfl) rfl (Nat.le_of_ble_eq_true rfl) (fun Q1 hq => m_X4_giveName (d := d + 0) ep23 (fun g hg => by subst hg; exact hq)) ?_
        cases hf
        exact xm_iret dX4_give_106 rfl (hR _ rfl)
      refine xb_if hf (fun c hf => ?_) (fun n2 hf => ?_)
      · refine xm_tableIn 107 dX4_give_47 (by rw [c]; decide) (by rw [c]; decide) (by rw [c]; rfl) (by decide) ?_
        refine xm_aload_n dX4_give_107 rfl ?_
        refine xm_iload dX4_give_108 rfl ?_
        refine xm_bipush dX4_give_110 (v := 97) (by decide) ?_
        refine xm_isub dX4_give_112 ?_
        refine xm_aload_n dX4_give_113 rfl ?_
        refine xb_getR (a := l1) (c := 9) (k := 3) dX4_give_114 xcl9 (by decide) xw_212 rfl hf (fun x24 ex24 hf => ?_)
        refine xm_iload_n dX4_give_117 rfl ?_
        refine xb_iald dX4_give_118 hf (fun x25 ex25 hf => ?_)
        refine xb_if hf (fun hb hf => ?_) (fun _ q => nomatch q)
        obtain ⟨p26, ep26, hf⟩ := xbind hf
        refine xb_callV (As := [.int (x6 - (97 : Int32)), .int x25]) (v0 := (some (.int p26.1))) (τ0 := p26.2) dX4_give_119 (xc_X4_openCall _ _) xcl4 xw_1143 xw_1145 xs_39 hb rfl (Nat.le_of_ble_eq_true rfl) rfl (Nat.le_of_ble_eq_true rfl) (fun Q1 hq => m_X4_openCall (d := d + 2) ep26 (fun g hg => by subst hg; exact hq)) ?_
        cases hf
        exact xm_iret dX4_give_122 rfl (hR _ rfl)
      refine xm_tableOut 123 dX4_give_47 (by have q0 := lv_neT (a := 0) n0 (by decide); have q1 := lv_neT (a := 1) n1 (by decide); have q2 := lv_neT (a := 2) n2 (by decide); omega) (by decide) ?_
      refine xm_aload_n dX4_give_123 rfl ?_
      refine xb_getR (a := l0) (c := 4) (k := 0) dX4_give_124 xcl4 (by decide) xw_421 rfl hf (fun x9 ex9 hf => ?_)
      refine xm_iload dX4_give_127 rfl ?_
      refine xm_aload_n dX4_give_129 rfl ?_
      refine xb_getR (a := l1) (c := 9) (k := 2) dX4_give_130 xcl9 (by decide) xw_207 rfl hf (fun x10 ex10 hf => ?_)
      refine xm_iload_n dX4_give_133 rfl ?_
      refine xb_iald dX4_give_134 hf (fun x11 ex11 hf => ?_)
      refine xb_if hf (fun hb hf => ?_) (fun _ q => nomatch q)
      obtain ⟨p12, ep12, hf⟩ := xbind hf
      refine xb_callV (As := [.int x6, .int x11]) (v0 := (some (.int p12))) (τ0 := σ4) dX4_give_135 (xc_X1_meaning _ _) xcl1 xw_1151 xw_891 xw_892 hb rfl (Nat.le_of_ble_eq_true rfl) rfl (Nat.le_of_ble_eq_true rfl) (fun Q1 hq => m_X1_meaning (d := d + 2) ep12 (fun g hg => by subst hg; exact hq)) ?_
      refine xm_istore dX4_give_138 (by decide) (xm_stL (L' := [(5, .int p12), (4, .int x6), (0, .ref l0), (1, .ref l1), (2, .int l2), (3, .int l3)]) rfl ?_)
      refine xm_iload dX4_give_140 rfl ?_
      refine xm_bipush dX4_give_142 (v := 100) (by decide) ?_
      refine xb_icmp_lt 165 dX4_give_144 (by decide) hf (fun c hf => ?_) (fun c hf => ?_)
      · refine xm_aload_n dX4_give_165 rfl ?_
        refine xm_iload dX4_give_166 rfl ?_
        refine xb_if hf (fun hb hf => ?_) (fun _ q => nomatch q)
        obtain ⟨p13, ep13, hf⟩ := xbind hf
        refine xb_callV (As := [.int p12]) (v0 := (some (.int p13.1))) (τ0 := p13.2) dX4_give_168 (xc_X4_operate _ _) xcl4 xw_1152 xw_1154 xs_40 hb rfl (Nat.le_of_ble_eq_true rfl) rfl (Nat.le_of_ble_eq_true rfl) (fun Q1 hq => m_X4_operate (d := d + 0) ep13 (fun g hg => by subst hg; exact hq)) ?_
        exact xm_sub [] rfl (L_X4_give_j171 p13.2 p13.1 hf hR)
      · refine xm_aload_n dX4_give_147 rfl ?_
        refine xm_iload dX4_give_148 rfl ?_
        refine xm_bipush dX4_give_150 (v := 100) (by decide) ?_
        refine xm_isub dX4_give_152 ?_
        refine xm_aload_n dX4_give_153 rfl ?_
        refine xb_getR (a := l1) (c := 9) (k := 3) dX4_give_154 xcl9 (by decide) xw_212 rfl hf (fun x14 ex14 hf => ?_)
        refine xm_iload_n dX4_give_157 rfl ?_
        refine xb_iald dX4_give_158 hf (fun x15 ex15 hf => ?_)
        refine xb_if hf (fun hb hf => ?_) (fun _ q => nomatch q)
        obtain ⟨p16, ep16, hf⟩ := xbind hf
        refine xb_callV (As := [.int (p12 - (100 : Int32)), .int x15]) (v0 := (some (.int p16.1))) (τ0 := p16.2) dX4_give_159 (xc_X4_openCall _ _) xcl4 xw_1143 xw_1145 xs_39 hb rfl (Nat.le_of_ble_eq_true rfl) rfl (Nat.le_of_ble_eq_true rfl) (fun Q1 hq => m_X4_openCall (d := d + 2) ep16 (fun g hg => by subst hg; exact hq)) ?_
        refine xm_goto 171 dX4_give_162 (by decide) ?_
        exact xm_sub [] rfl (L_X4_give_j171 p16.2 p16.1 hf hR)
    · exact xm_sub [] rfl (L_X4_give_j20 σ hf hR)
-- Rankwise$Machine.work()I
def f_X4_work_j241 (σ : xM) (l0 : Nat) (l1 : Int32) (l2 : Int32) : Option ((Int32 × xM) ⊕ ((Nat × Int32 × xM) ⊕ (Nat × Int32 × Int32 × xM))) :=
  xlet (l2 + (1 : Int32)) (fun v14 => some (Sum.inr (Sum.inr (l0, l1, v14, σ))))
set_option maxHeartbeats 4000000 in
set_option maxRecDepth 20000 in
theorem L_X4_work_j241 {G : xG} {π : Nat → Nat} {d C Z : Nat} {Q : xQ} (σ : xM) (l0 : Nat) (l1 : Int32) (l2 : Int32) {x : ((Int32 × xM) ⊕ ((Nat × Int32 × xM) ⊕ (Nat × Int32 × Int32 × xM)))} (hf : f_X4_work_j241 σ l0 l1 l2 = some x) (hR : ∀ g, x = Sum.inl (g) → Q (.inl (some (.int g.1))) (g.2) π) (hE : ∀ e : (Nat × Int32 × xM), x = Sum.inr (Sum.inl e) → xMach G π J_X4_work (d + 5) C Z 247 [(0, .ref e.1), (1, .int e.2.1)] [] e.2.2 Q) (hC : ∀ e : (Nat × Int32 × Int32 × xM), x = Sum.inr (Sum.inr e) → xMach G π J_X4_work (d + 5) C Z 4 [(0, .ref e.1), (1, .int e.2.1), (2, .int e.2.2.1)] [] e.2.2.2 Q) : xMach G π J_X4_work (d + 5) C Z 241 [(0, .ref l0), (1, .int l1), (2, .int l2)] [] σ Q := by
  unfold f_X4_work_j241 at hf
  refine xb_iinc dX4_work_241 rfl (by decide) (by decide) hf (fun v14 ev14 hf => xm_stL (L' := [(2, .int v14), (0, .ref l0), (1, .int l1)]) rfl ?_)
  refine xm_goto 4 dX4_work_244 (by decide) ?_
  cases hf
  exact xm_sub [1, 2, 0] rfl (hC _ rfl)
def f_X4_work_j67 (σ : xM) (l0 : Nat) (l2 : Int32) (l3 : Int32) (l5 : Int32) : Option ((Int32 × xM) ⊕ ((Nat × Int32 × xM) ⊕ (Nat × Int32 × Int32 × xM))) :=
  (if xk σ l0 4 = true then (f_X4_advanceCall σ l0 l3 l5).bind (fun p13 => f_X4_work_j241 p13.2 l0 p13.1 l2) else none)
set_option maxHeartbeats 4000000 in
set_option maxRecDepth 20000 in
theorem L_X4_work_j67 {G : xG} {π : Nat → Nat} {d C Z : Nat} {Q : xQ} (σ : xM) (l0 : Nat) (l2 : Int32) (l3 : Int32) (l5 : Int32) {x : ((Int32 × xM) ⊕ ((Nat × Int32 × xM) ⊕ (Nat × Int32 × Int32 × xM)))} (hf : f_X4_work_j67 σ l0 l2 l3 l5 = some x) (hR : ∀ g, x = Sum.inl (g) → Q (.inl (some (.int g.1))) (g.2) π) (hE : ∀ e : (Nat × Int32 × xM), x = Sum.inr (Sum.inl e) → xMach G π J_X4_work (d + 5) C Z 247 [(0, .ref e.1), (1, .int e.2.1)] [] e.2.2 Q) (hC : ∀ e : (Nat × Int32 × Int32 × xM), x = Sum.inr (Sum.inr e) → xMach G π J_X4_work (d + 5) C Z 4 [(0, .ref e.1), (1, .int e.2.1), (2, .int e.2.2.1)] [] e.2.2.2 Q) : xMach G π J_X4_work (d + 5) C Z 67 [(0, .ref l0), (2, .int l2), (3, .int l3), (5, .int l5)] [] σ Q := by
  unfold f_X4_work_j67 at hf
  refine xm_aload_n dX4_work_67 rfl ?_
  refine xm_iload_n dX4_work_68 rfl ?_
  refine xm_iload dX4_work_69 rfl ?_
  refine xb_if hf (fun hb hf => ?_) (fun _ q => nomatch q)
  obtain ⟨p13, ep13, hf⟩ := xbind hf
  refine xb_callV (As := [.int l3, .int l5]) (v0 := (some (.int p13.1))) (τ0 := p13.2) dX4_work_71 (xc_X4_advanceCall _ _) xcl4 xw_952 xw_954 xs_22 hb rfl (Nat.le_of_ble_eq_true rfl) rfl (Nat.le_of_ble_eq_true rfl) (fun Q1 hq => m_X4_advanceCall (d := d + 0) ep13 (fun g hg => by subst hg; exact hq)) ?_
  refine xm_istore_n dX4_work_74 (by decide) (xm_stL (L' := [(1, .int p13.1), (0, .ref l0), (2, .int l2), (3, .int l3), (5, .int l5)]) rfl ?_)
  refine xm_goto 241 dX4_work_75 (by decide) ?_
  exact xm_sub [1, 0, 2] rfl (L_X4_work_j241 p13.2 l0 p13.1 l2 hf hR hE hC)
def f_X4_work_j240 (σ : xM) (l0 : Nat) (l2 : Int32) (s0 : Int32) : Option ((Int32 × xM) ⊕ ((Nat × Int32 × xM) ⊕ (Nat × Int32 × Int32 × xM))) :=
  f_X4_work_j241 σ l0 s0 l2
set_option maxHeartbeats 4000000 in
set_option maxRecDepth 20000 in
theorem L_X4_work_j240 {G : xG} {π : Nat → Nat} {d C Z : Nat} {Q : xQ} (σ : xM) (l0 : Nat) (l2 : Int32) (s0 : Int32) {x : ((Int32 × xM) ⊕ ((Nat × Int32 × xM) ⊕ (Nat × Int32 × Int32 × xM)))} (hf : f_X4_work_j240 σ l0 l2 s0 = some x) (hR : ∀ g, x = Sum.inl (g) → Q (.inl (some (.int g.1))) (g.2) π) (hE : ∀ e : (Nat × Int32 × xM), x = Sum.inr (Sum.inl e) → xMach G π J_X4_work (d + 5) C Z 247 [(0, .ref e.1), (1, .int e.2.1)] [] e.2.2 Q) (hC : ∀ e : (Nat × Int32 × Int32 × xM), x = Sum.inr (Sum.inr e) → xMach G π J_X4_work (d + 5) C Z 4 [(0, .ref e.1), (1, .int e.2.1), (2, .int e.2.2.1)] [] e.2.2.2 Q) : xMach G π J_X4_work (d + 5) C Z 240 [(0, .ref l0), (2, .int l2)] [.int s0] σ Q := by
  unfold f_X4_work_j240 at hf
  refine xm_istore_n dX4_work_240 (by decide) (xm_stL (L' := [(1, .int s0), (0, .ref l0), (2, .int l2)]) rfl ?_)
  exact xm_sub [1, 0, 2] rfl (L_X4_work_j241 σ l0 s0 l2 hf hR hE hC)
def f_X4_work_j207 (σ : xM) (l0 : Nat) (l2 : Int32) (l3 : Int32) (l4 : Nat) (l5 : Int32) : Option ((Int32 × xM) ⊕ ((Nat × Int32 × xM) ⊕ (Nat × Int32 × Int32 × xM))) :=
  (sI σ l0 4 12 l3).bind (fun σ25 => (gR σ25 l0 4 6).bind (fun x26 => (aI σ25 x26 14 l3).bind (fun x27 => (if x27 = (4 : Int32) then f_X4_work_j240 σ25 l0 l2 (0 : Int32) else (gR σ25 l0 4 10).bind (fun x28 => (aI σ25 x28 14 l3).bind (fun x29 => (if xk σ25 l0 4 = true then (f_X4_give σ25 l0 l4 l5 x29).bind (fun p30 => f_X4_work_j240 p30.2 l0 l2 p30.1) else none)))))))
set_option maxHeartbeats 4000000 in
set_option maxRecDepth 20000 in
theorem L_X4_work_j207 {G : xG} {π : Nat → Nat} {d C Z : Nat} {Q : xQ} (σ : xM) (l0 : Nat) (l2 : Int32) (l3 : Int32) (l4 : Nat) (l5 : Int32) {x : ((Int32 × xM) ⊕ ((Nat × Int32 × xM) ⊕ (Nat × Int32 × Int32 × xM)))} (hf : f_X4_work_j207 σ l0 l2 l3 l4 l5 = some x) (hR : ∀ g, x = Sum.inl (g) → Q (.inl (some (.int g.1))) (g.2) π) (hE : ∀ e : (Nat × Int32 × xM), x = Sum.inr (Sum.inl e) → xMach G π J_X4_work (d + 5) C Z 247 [(0, .ref e.1), (1, .int e.2.1)] [] e.2.2 Q) (hC : ∀ e : (Nat × Int32 × Int32 × xM), x = Sum.inr (Sum.inr e) → xMach G π J_X4_work (d + 5) C Z 4 [(0, .ref e.1), (1, .int e.2.1), (2, .int e.2.2.1)] [] e.2.2.2 Q) : xMach G π J_X4_work (d + 5) C Z 207 [(0, .ref l0), (2, .int l2), (3, .int l3), (4, .ref l4), (5, .int l5)] [] σ Q := by
  unfold f_X4_work_j207 at hf
  refine xm_aload_n dX4_work_207 rfl ?_
  refine xm_iload_n dX4_work_208 rfl ?_
  refine xb_putI (a := l0) (c := 4) (k := 12) dX4_work_209 xcl4 (by decide) xw_433 rfl rfl hf (fun σ25 eσ25 hf => ?_)
  refine xm_aload_n dX4_work_212 rfl ?_
  refine xb_getR (a := l0) (c := 4) (k := 6) dX4_work_213 xcl4 (by decide) xw_427 rfl hf (fun x26 ex26 hf => ?_)
  refine xm_iload_n dX4_work_216 rfl ?_
  refine xb_iald dX4_work_217 hf (fun x27 ex27 hf => ?_)
  refine xm_iconst dX4_work_218 (v := 4) (by decide) ?_
  refine xb_icmp_ne 226 dX4_work_219 (by decide) hf (fun c hf => ?_) (fun c hf => ?_)
  · refine xm_aload_n dX4_work_226 rfl ?_
    refine xm_aload dX4_work_227 rfl ?_
    refine xm_iload dX4_work_229 rfl ?_
    refine xm_aload_n dX4_work_231 rfl ?_
    refine xb_getR (a := l0) (c := 4) (k := 10) dX4_work_232 xcl4 (by decide) xw_431 rfl hf (fun x28 ex28 hf => ?_)
    refine xm_iload_n dX4_work_235 rfl ?_
    refine xb_iald dX4_work_236 hf (fun x29 ex29 hf => ?_)
    refine xb_if hf (fun hb hf => ?_) (fun _ q => nomatch q)
    obtain ⟨p30, ep30, hf⟩ := xbind hf
    refine xb_callV (As := [.ref l4, .int l5, .int x29]) (v0 := (some (.int p30.1))) (τ0 := p30.2) dX4_work_237 (xc_X4_give _ _) xcl4 xw_1135 xw_1136 xw_1137 hb rfl (Nat.le_of_ble_eq_true rfl) rfl (Nat.le_of_ble_eq_true rfl) (fun Q1 hq => m_X4_give (d := d + 0) ep30 (fun g hg => by subst hg; exact hq)) ?_
    exact xm_sub [0, 1] rfl (L_X4_work_j240 p30.2 l0 l2 p30.1 hf hR hE hC)
  · refine xm_iconst dX4_work_222 (v := 0) (by decide) ?_
    refine xm_goto 240 dX4_work_223 (by decide) ?_
    exact xm_sub [0, 1] rfl (L_X4_work_j240 σ25 l0 l2 (0 : Int32) hf hR hE hC)
def f_X4_work_j172 (σ : xM) (l0 : Nat) (l2 : Int32) (l3 : Int32) (l4 : Nat) (l5 : Int32) (l6 : Int32) : Option ((Int32 × xM) ⊕ ((Nat × Int32 × xM) ⊕ (Nat × Int32 × Int32 × xM))) :=
  (gR σ l0 4 6).bind (fun x23 => (aI σ x23 14 l3).bind (fun x24 => (if x24 = (0 : Int32) then (gR σ l4 9 3).bind (fun x31 => (aI σ x31 14 l5).bind (fun x32 => (if x32 ≤ l6 then f_X4_work_j207 σ l0 l2 l3 l4 l5 else (if xk σ l0 4 = true then (f_X4_nextOperand σ l0 l3 l4 l5).bind (fun p33 => f_X4_work_j241 p33.2 l0 p33.1 l2) else none)))) else f_X4_work_j207 σ l0 l2 l3 l4 l5)))
set_option maxHeartbeats 4000000 in
set_option maxRecDepth 20000 in
theorem L_X4_work_j172 {G : xG} {π : Nat → Nat} {d C Z : Nat} {Q : xQ} (σ : xM) (l0 : Nat) (l2 : Int32) (l3 : Int32) (l4 : Nat) (l5 : Int32) (l6 : Int32) {x : ((Int32 × xM) ⊕ ((Nat × Int32 × xM) ⊕ (Nat × Int32 × Int32 × xM)))} (hf : f_X4_work_j172 σ l0 l2 l3 l4 l5 l6 = some x) (hR : ∀ g, x = Sum.inl (g) → Q (.inl (some (.int g.1))) (g.2) π) (hE : ∀ e : (Nat × Int32 × xM), x = Sum.inr (Sum.inl e) → xMach G π J_X4_work (d + 5) C Z 247 [(0, .ref e.1), (1, .int e.2.1)] [] e.2.2 Q) (hC : ∀ e : (Nat × Int32 × Int32 × xM), x = Sum.inr (Sum.inr e) → xMach G π J_X4_work (d + 5) C Z 4 [(0, .ref e.1), (1, .int e.2.1), (2, .int e.2.2.1)] [] e.2.2.2 Q) : xMach G π J_X4_work (d + 5) C Z 172 [(0, .ref l0), (2, .int l2), (3, .int l3), (4, .ref l4), (5, .int l5), (6, .int l6)] [] σ Q := by
  unfold f_X4_work_j172 at hf
  refine xm_aload_n dX4_work_172 rfl ?_
  refine xb_getR (a := l0) (c := 4) (k := 6) dX4_work_173 xcl4 (by decide) xw_427 rfl hf (fun x23 ex23 hf => ?_)
  refine xm_iload_n dX4_work_176 rfl ?_
  refine xb_iald dX4_work_177 hf (fun x24 ex24 hf => ?_)
  refine xb_if_ne 207 dX4_work_178 (by decide) hf (fun c hf => ?_) (fun c hf => ?_)
  · exact xm_sub [0, 1, 2, 3, 4] rfl (L_X4_work_j207 σ l0 l2 l3 l4 l5 hf hR hE hC)
  · refine xm_iload dX4_work_181 rfl ?_
    refine xm_aload dX4_work_183 rfl ?_
    refine xb_getR (a := l4) (c := 9) (k := 3) dX4_work_185 xcl9 (by decide) xw_212 rfl hf (fun x31 ex31 hf => ?_)
    refine xm_iload dX4_work_188 rfl ?_
    refine xb_iald dX4_work_190 hf (fun x32 ex32 hf => ?_)
    refine xb_icmp_ge 207 dX4_work_191 (by decide) hf (fun c hf => ?_) (fun c hf => ?_)
    · exact xm_sub [0, 1, 2, 3, 4] rfl (L_X4_work_j207 σ l0 l2 l3 l4 l5 hf hR hE hC)
    · refine xm_aload_n dX4_work_194 rfl ?_
      refine xm_iload_n dX4_work_195 rfl ?_
      refine xm_aload dX4_work_196 rfl ?_
      refine xm_iload dX4_work_198 rfl ?_
      refine xb_if hf (fun hb hf => ?_) (fun _ q => nomatch q)
      obtain ⟨p33, ep33, hf⟩ := xbind hf
      refine xb_callV (As := [.int l3, .ref l4, .int l5]) (v0 := (some (.int p33.1))) (τ0 := p33.2) dX4_work_200 (xc_X4_nextOperand _ _) xcl4 xw_1013 xw_1015 xs_29 hb rfl (Nat.le_of_ble_eq_true rfl) rfl (Nat.le_of_ble_eq_true rfl) (fun Q1 hq => m_X4_nextOperand (d := d + 2) ep33 (fun g hg => by subst hg; exact hq)) ?_
      refine xm_istore_n dX4_work_203 (by decide) (xm_stL (L' := [(1, .int p33.1), (0, .ref l0), (2, .int l2), (3, .int l3), (4, .ref l4), (5, .int l5), (6, .int l6)]) rfl ?_)
      refine xm_goto 241 dX4_work_204 (by decide) ?_
      exact xm_sub [1, 0, 2] rfl (L_X4_work_j241 p33.2 l0 p33.1 l2 hf hR hE hC)
def f_X4_work_s4 (s : (Nat × Int32 × Int32 × xM)) : Option ((Int32 × xM) ⊕ ((Nat × Int32 × xM) ⊕ (Nat × Int32 × Int32 × xM))) :=
  xlet s.1 (fun l0 => xlet s.2.1 (fun l1 => xlet s.2.2.1 (fun l2 => xlet s.2.2.2 (fun σ => (if (1000000 : Int32) ≤ l2 then some (Sum.inr (Sum.inl (l0, l1, σ))) else (gI σ l0 4 12).bind (fun x3 => (if x3 ≤ (0 : Int32) then some (Sum.inr (Sum.inl (l0, l1, σ))) else (if l1 = (0 : Int32) then (gI σ l0 4 12).bind (fun x4 => xlet (x4 - (1 : Int32)) (fun v5 => (gR σ l0 4 7).bind (fun x6 => (aR σ x6 17 v5).bind (fun x7 => (gR σ l0 4 8).bind (fun x8 => (aI σ x8 14 v5).bind (fun x9 => (gR σ l0 4 9).bind (fun x10 => (aI σ x10 14 v5).bind (fun x11 => (Option.elim x7 (f_X4_work_j67 σ l0 l2 v5 x9) (fun a12 => (gR σ l0 4 6).bind (fun x15 => (aI σ x15 14 v5).bind (fun x16 => (if x16 = (3 : Int32) then f_X4_work_j67 σ l0 l2 v5 x9 else (gR σ l0 4 6).bind (fun x17 => (aI σ x17 14 v5).bind (fun x18 => (if x18 = (1 : Int32) then (if xk σ l0 4 = true then (f_X4_advanceChoice σ l0 v5 a12 x9).bind (fun p41 => f_X4_work_j241 p41.2 l0 p41.1 l2) else none) else (gR σ l0 4 6).bind (fun x19 => (aI σ x19 14 v5).bind (fun x20 => (if x20 = (2 : Int32) then (if xk σ l0 4 = true then (f_X4_advanceSum σ l0 v5 a12 x9).bind (fun p40 => f_X4_work_j241 p40.2 l0 p40.1 l2) else none) else (gR σ l0 4 6).bind (fun x21 => (aI σ x21 14 v5).bind (fun x22 => (if x22 = (4 : Int32) then (gI σ a12 9 7).bind (fun x34 => (if x34 ≤ x11 then f_X4_work_j172 σ l0 l2 v5 a12 x9 x11 else (gR σ l0 4 9).bind (fun x35 => (aI σ x35 14 v5).bind (fun x36 => (wI σ x35 v5 (x36 + (1 : Int32))).bind (fun σ37 => (if xk σ37 a12 9 = true then (f_X9_nodeAt σ37 a12 x11).bind (fun p38 => (if xk σ37 l0 4 = true then (f_X4_give σ37 l0 a12 p38 (-1 : Int32)).bind (fun p39 => f_X4_work_j241 p39.2 l0 p39.1 l2) else none)) else none)))))) else f_X4_work_j172 σ l0 l2 v5 a12 x9 x11)))))))))))))))))))))) else some (Sum.inr (Sum.inl (l0, l1, σ)))))))))))
set_option maxHeartbeats 4000000 in
set_option maxRecDepth 20000 in
theorem L_X4_work_s4 {G : xG} {π : Nat → Nat} {d C Z : Nat} {Q : xQ} (σ : xM) (l0 : Nat) (l1 : Int32) (l2 : Int32) {x : ((Int32 × xM) ⊕ ((Nat × Int32 × xM) ⊕ (Nat × Int32 × Int32 × xM)))} (hf : f_X4_work_s4 (l0, l1, l2, σ) = some x) (hR : ∀ g, x = Sum.inl (g) → Q (.inl (some (.int g.1))) (g.2) π) (hE : ∀ e : (Nat × Int32 × xM), x = Sum.inr (Sum.inl e) → xMach G π J_X4_work (d + 5) C Z 247 [(0, .ref e.1), (1, .int e.2.1)] [] e.2.2 Q) (hC : ∀ e : (Nat × Int32 × Int32 × xM), x = Sum.inr (Sum.inr e) → xMach G π J_X4_work (d + 5) C Z 4 [(0, .ref e.1), (1, .int e.2.1), (2, .int e.2.2.1)] [] e.2.2.2 Q) : xMach G π J_X4_work (d + 5) C Z 4 [(0, .ref l0), (1, .int l1), (2, .int l2)] [] σ Q := by
  have hf : (if (1000000 : Int32) ≤ l2 then some (Sum.inr (Sum.inl (l0, l1, σ))) else (gI σ l0 4 12).bind (fun x3 => (if x3 ≤ (0 : Int32) then some (Sum.inr (Sum.inl (l0, l1, σ))) else (if l1 = (0 : Int32) then (gI σ l0 4 12).bind (fun x4 => xlet (x4 - (1 : Int32)) (fun v5 => (gR σ l0 4 7).bind (fun x6 => (aR σ x6 17 v5).bind (fun x7 => (gR σ l0 4 8).bind (fun x8 => (aI σ x8 14 v5).bind (fun x9 => (gR σ l0 4 9).bind (fun x10 => (aI σ x10 14 v5).bind (fun x11 => (Option.elim x7 (f_X4_work_j67 σ l0 l2 v5 x9) (fun a12 => (gR σ l0 4 6).bind (fun x15 => (aI σ x15 14 v5).bind (fun x16 => (if x16 = (3 : Int32) then f_X4_work_j67 σ l0 l2 v5 x9 else (gR σ l0 4 6).bind (fun x17 => (aI σ x17 14 v5).bind (fun x18 => (if x18 = (1 : Int32) then (if xk σ l0 4 = true then (f_X4_advanceChoice σ l0 v5 a12 x9).bind (fun p41 => f_X4_work_j241 p41.2 l0 p41.1 l2) else none) else (gR σ l0 4 6).bind (fun x19 => (aI σ x19 14 v5).bind (fun x20 => (if x20 = (2 : Int32) then (if xk σ l0 4 = true then (f_X4_advanceSum σ l0 v5 a12 x9).bind (fun p40 => f_X4_work_j241 p40.2 l0 p40.1 l2) else none) else (gR σ l0 4 6).bind (fun x21 => (aI σ x21 14 v5).bind (fun x22 => (if x22 = (4 : Int32) then (gI σ a12 9 7).bind (fun x34 => (if x34 ≤ x11 then f_X4_work_j172 σ l0 l2 v5 a12 x9 x11 else (gR σ l0 4 9).bind (fun x35 => (aI σ x35 14 v5).bind (fun x36 => (wI σ x35 v5 (x36 + (1 : Int32))).bind (fun σ37 => (if xk σ37 a12 9 = true then (f_X9_nodeAt σ37 a12 x11).bind (fun p38 => (if xk σ37 l0 4 = true then (f_X4_give σ37 l0 a12 p38 (-1 : Int32)).bind (fun p39 => f_X4_work_j241 p39.2 l0 p39.1 l2) else none)) else none)))))) else f_X4_work_j172 σ l0 l2 v5 a12 x9 x11)))))))))))))))))))))) else some (Sum.inr (Sum.inl (l0, l1, σ))))))) = some x := hf
  refine xm_iload_n dX4_work_4 rfl ?_
  refine xm_ldc dX4_work_5 (xws_in xw_951) ?_
  refine xb_icmp_ge 247 dX4_work_7 (by decide) hf (fun c hf => ?_) (fun c hf => ?_)
  · cases hf
    exact xm_sub [0, 1] rfl (hE _ rfl)
  · refine xm_aload_n dX4_work_10 rfl ?_
    refine xb_getI (a := l0) (c := 4) (k := 12) dX4_work_11 xcl4 (by decide) xw_433 rfl hf (fun x3 ex3 hf => ?_)
    refine xb_if_le 247 dX4_work_14 (by decide) hf (fun c hf => ?_) (fun c hf => ?_)
    · cases hf
      exact xm_sub [0, 1] rfl (hE _ rfl)
    · refine xm_iload_n dX4_work_17 rfl ?_
      refine xb_if_ne 247 dX4_work_18 (by decide) hf (fun c hf => ?_) (fun c hf => ?_)
      · cases hf
        exact xm_sub [0, 1] rfl (hE _ rfl)
      · refine xm_aload_n dX4_work_21 rfl ?_
        refine xb_getI (a := l0) (c := 4) (k := 12) dX4_work_22 xcl4 (by decide) xw_433 rfl hf (fun x4 ex4 hf => ?_)
        refine xm_iconst dX4_work_25 (v := 1) (by decide) ?_
        refine xm_isub dX4_work_26 ?_
        refine xb_topi hf (fun v5 ev5 hf => ?_)
        refine xm_istore_n dX4_work_27 (by decide) (xm_stL (L' := [(3, .int v5), (0, .ref l0), (1, .int l1), (2, .int l2)]) rfl ?_)
        refine xm_aload_n dX4_work_28 rfl ?_
        refine xb_getR (a := l0) (c := 4) (k := 7) dX4_work_29 xcl4 (by decide) xw_428 rfl hf (fun x6 ex6 hf => ?_)
        refine xm_iload_n dX4_work_32 rfl ?_
        refine xb_aald dX4_work_33 (by decide) hf (fun x7 ex7 hf => ?_)
        refine xm_astoreQ (t := x7) dX4_work_34 (by decide) (xm_stL (L' := [(4, va_rf x7), (3, .int v5), (0, .ref l0), (1, .int l1), (2, .int l2)]) (by cases x7 <;> rfl) ?_)
        refine xm_aload_n dX4_work_36 rfl ?_
        refine xb_getR (a := l0) (c := 4) (k := 8) dX4_work_37 xcl4 (by decide) xw_429 rfl hf (fun x8 ex8 hf => ?_)
        refine xm_iload_n dX4_work_40 rfl ?_
        refine xb_iald dX4_work_41 hf (fun x9 ex9 hf => ?_)
        refine xm_istore dX4_work_42 (by decide) (xm_stL (L' := [(5, .int x9), (4, va_rf x7), (3, .int v5), (0, .ref l0), (1, .int l1), (2, .int l2)]) (by cases x7 <;> rfl) ?_)
        refine xm_aload_n dX4_work_44 rfl ?_
        refine xb_getR (a := l0) (c := 4) (k := 9) dX4_work_45 xcl4 (by decide) xw_430 rfl hf (fun x10 ex10 hf => ?_)
        refine xm_iload_n dX4_work_48 rfl ?_
        refine xb_iald dX4_work_49 hf (fun x11 ex11 hf => ?_)
        refine xm_istore dX4_work_50 (by decide) (xm_stL (L' := [(6, .int x11), (5, .int x9), (4, va_rf x7), (3, .int v5), (0, .ref l0), (1, .int l1), (2, .int l2)]) (by cases x7 <;> rfl) ?_)
        refine xm_aloadQ dX4_work_52 rfl ?_
        refine xb_ifnullQ 67 dX4_work_54 (by decide) hf (fun c hf => ?_) (fun a12 c hf => ?_)
        · subst c
          exact xm_sub [4, 6, 3, 1] rfl (L_X4_work_j67 σ l0 l2 v5 x9 hf hR hE hC)
        · subst c
          refine xm_aload_n dX4_work_57 rfl ?_
          refine xb_getR (a := l0) (c := 4) (k := 6) dX4_work_58 xcl4 (by decide) xw_427 rfl hf (fun x15 ex15 hf => ?_)
          refine xm_iload_n dX4_work_61 rfl ?_
          refine xb_iald dX4_work_62 hf (fun x16 ex16 hf => ?_)
          refine xm_iconst dX4_work_63 (v := 3) (by decide) ?_
          refine xb_icmp_ne 78 dX4_work_64 (by decide) hf (fun c hf => ?_) (fun c hf => ?_)
          · refine xm_aload_n dX4_work_78 rfl ?_
            refine xb_getR (a := l0) (c := 4) (k := 6) dX4_work_79 xcl4 (by decide) xw_427 rfl hf (fun x17 ex17 hf => ?_)
            refine xm_iload_n dX4_work_82 rfl ?_
            refine xb_iald dX4_work_83 hf (fun x18 ex18 hf => ?_)
            refine xm_iconst dX4_work_84 (v := 1) (by decide) ?_
            refine xb_icmp_ne 101 dX4_work_85 (by decide) hf (fun c hf => ?_) (fun c hf => ?_)
            · refine xm_aload_n dX4_work_101 rfl ?_
              refine xb_getR (a := l0) (c := 4) (k := 6) dX4_work_102 xcl4 (by decide) xw_427 rfl hf (fun x19 ex19 hf => ?_)
              refine xm_iload_n dX4_work_105 rfl ?_
              refine xb_iald dX4_work_106 hf (fun x20 ex20 hf => ?_)
              refine xm_iconst dX4_work_107 (v := 2) (by decide) ?_
              refine xb_icmp_ne 124 dX4_work_108 (by decide) hf (fun c hf => ?_) (fun c hf => ?_)
              · refine xm_aload_n dX4_work_124 rfl ?_
                refine xb_getR (a := l0) (c := 4) (k := 6) dX4_work_125 xcl4 (by decide) xw_427 rfl hf (fun x21 ex21 hf => ?_)
                refine xm_iload_n dX4_work_128 rfl ?_
                refine xb_iald dX4_work_129 hf (fun x22 ex22 hf => ?_)
                refine xm_iconst dX4_work_130 (v := 4) (by decide) ?_
                refine xb_icmp_ne 172 dX4_work_131 (by decide) hf (fun c hf => ?_) (fun c hf => ?_)
                · exact xm_sub [4, 6, 3, 2, 1, 0] rfl (L_X4_work_j172 σ l0 l2 v5 a12 x9 x11 hf hR hE hC)
                · refine xm_iload dX4_work_134 rfl ?_
                  refine xm_aload dX4_work_136 rfl ?_
                  refine xb_getI (a := a12) (c := 9) (k := 7) dX4_work_138 xcl9 (by decide) xw_222 rfl hf (fun x34 ex34 hf => ?_)
                  refine xb_icmp_ge 172 dX4_work_141 (by decide) hf (fun c hf => ?_) (fun c hf => ?_)
                  · exact xm_sub [4, 6, 3, 2, 1, 0] rfl (L_X4_work_j172 σ l0 l2 v5 a12 x9 x11 hf hR hE hC)
                  · refine xm_aload_n dX4_work_144 rfl ?_
                    refine xb_getR (a := l0) (c := 4) (k := 9) dX4_work_145 xcl4 (by decide) xw_430 rfl hf (fun x35 ex35 hf => ?_)
                    refine xm_iload_n dX4_work_148 rfl ?_
                    refine xm_dup2 dX4_work_149 rfl rfl ?_
                    refine xb_iald dX4_work_150 hf (fun x36 ex36 hf => ?_)
                    refine xm_iconst dX4_work_151 (v := 1) (by decide) ?_
                    refine xm_iadd dX4_work_152 ?_
                    refine xb_iast dX4_work_153 hf (fun σ37 eσ37 hf => ?_)
                    refine xm_aload_n dX4_work_154 rfl ?_
                    refine xm_aload dX4_work_155 rfl ?_
                    refine xm_aload dX4_work_157 rfl ?_
                    refine xm_iload dX4_work_159 rfl ?_
                    refine xb_if hf (fun hb hf => ?_) (fun _ q => nomatch q)
                    obtain ⟨p38, ep38, hf⟩ := xbind hf
                    refine xb_callV (As := [.int x11]) (v0 := (some (.int p38))) (τ0 := σ37) dX4_work_161 (xc_X9_nodeAt _ _) xcl9 xw_1131 xw_1132 xw_1133 hb rfl (Nat.le_of_ble_eq_true rfl) rfl (Nat.le_of_ble_eq_true rfl) (fun Q1 hq => m_X9_nodeAt (d := d + 4) ep38 (fun g hg => by subst hg; exact hq)) ?_
                    refine xm_iconst dX4_work_164 (v := -1) (by decide) ?_
                    refine xb_if hf (fun hb hf => ?_) (fun _ q => nomatch q)
                    obtain ⟨p39, ep39, hf⟩ := xbind hf
                    refine xb_callV (As := [.ref a12, .int p38, .int (-1 : Int32)]) (v0 := (some (.int p39.1))) (τ0 := p39.2) dX4_work_165 (xc_X4_give _ _) xcl4 xw_1135 xw_1136 xw_1137 hb rfl (Nat.le_of_ble_eq_true rfl) rfl (Nat.le_of_ble_eq_true rfl) (fun Q1 hq => m_X4_give (d := d + 0) ep39 (fun g hg => by subst hg; exact hq)) ?_
                    refine xm_istore_n dX4_work_168 (by decide) (xm_stL (L' := [(1, .int p39.1), (6, .int x11), (5, .int x9), (4, .ref a12), (3, .int v5), (0, .ref l0), (2, .int l2)]) rfl ?_)
                    refine xm_goto 241 dX4_work_169 (by decide) ?_
                    exact xm_sub [5, 0, 6] rfl (L_X4_work_j241 p39.2 l0 p39.1 l2 hf hR hE hC)
              · refine xm_aload_n dX4_work_111 rfl ?_
                refine xm_iload_n dX4_work_112 rfl ?_
                refine xm_aload dX4_work_113 rfl ?_
                refine xm_iload dX4_work_115 rfl ?_
                refine xb_if hf (fun hb hf => ?_) (fun _ q => nomatch q)
                obtain ⟨p40, ep40, hf⟩ := xbind hf
                refine xb_callV (As := [.int v5, .ref a12, .int x9]) (v0 := (some (.int p40.1))) (τ0 := p40.2) dX4_work_117 (xc_X4_advanceSum _ _) xcl4 xw_1021 xw_1023 xs_30 hb rfl (Nat.le_of_ble_eq_true rfl) rfl (Nat.le_of_ble_eq_true rfl) (fun Q1 hq => m_X4_advanceSum (d := d + 0) ep40 (fun g hg => by subst hg; exact hq)) ?_
                refine xm_istore_n dX4_work_120 (by decide) (xm_stL (L' := [(1, .int p40.1), (6, .int x11), (5, .int x9), (4, .ref a12), (3, .int v5), (0, .ref l0), (2, .int l2)]) rfl ?_)
                refine xm_goto 241 dX4_work_121 (by decide) ?_
                exact xm_sub [5, 0, 6] rfl (L_X4_work_j241 p40.2 l0 p40.1 l2 hf hR hE hC)
            · refine xm_aload_n dX4_work_88 rfl ?_
              refine xm_iload_n dX4_work_89 rfl ?_
              refine xm_aload dX4_work_90 rfl ?_
              refine xm_iload dX4_work_92 rfl ?_
              refine xb_if hf (fun hb hf => ?_) (fun _ q => nomatch q)
              obtain ⟨p41, ep41, hf⟩ := xbind hf
              refine xb_callV (As := [.int v5, .ref a12, .int x9]) (v0 := (some (.int p41.1))) (τ0 := p41.2) dX4_work_94 (xc_X4_advanceChoice _ _) xcl4 xw_1005 xw_1007 xs_27 hb rfl (Nat.le_of_ble_eq_true rfl) rfl (Nat.le_of_ble_eq_true rfl) (fun Q1 hq => m_X4_advanceChoice (d := d + 1) ep41 (fun g hg => by subst hg; exact hq)) ?_
              refine xm_istore_n dX4_work_97 (by decide) (xm_stL (L' := [(1, .int p41.1), (6, .int x11), (5, .int x9), (4, .ref a12), (3, .int v5), (0, .ref l0), (2, .int l2)]) rfl ?_)
              refine xm_goto 241 dX4_work_98 (by decide) ?_
              exact xm_sub [5, 0, 6] rfl (L_X4_work_j241 p41.2 l0 p41.1 l2 hf hR hE hC)
          · exact xm_sub [4, 6, 3, 1] rfl (L_X4_work_j67 σ l0 l2 v5 x9 hf hR hE hC)
theorem L_X4_work_l4 {G : xG} {π : Nat → Nat} {d C Z : Nat} {Q : xQ} {s0 : (Nat × Int32 × Int32 × xM)} {x : ((Int32 × xM) ⊕ (Nat × Int32 × xM))} (h1 : xloop (f_X4_work_s4) xF s0 = some x) (hR : ∀ g, x = Sum.inl g → Q (.inl (some (.int g.1))) (g.2) π) (hE : ∀ e : (Nat × Int32 × xM), x = Sum.inr e → xMach G π J_X4_work (d + 5) C Z 247 [(0, .ref e.1), (1, .int e.2.1)] [] e.2.2 Q) : xMach G π J_X4_work (d + 5) C Z 4 [(0, .ref s0.1), (1, .int s0.2.1), (2, .int s0.2.2.1)] [] s0.2.2.2 Q := by
  refine xloop_run (M := (fun s : (Nat × Int32 × Int32 × xM) => xMach G π J_X4_work (d + 5) C Z 4 [(0, .ref s.1), (1, .int s.2.1), (2, .int s.2.2.1)] [] s.2.2.2 Q)) (r := x) ?_ xF _ h1
  intro s y hs hx
  exact L_X4_work_s4 s.2.2.2 s.1 s.2.1 s.2.2.1 (x := y) hs (fun g hg => by subst hg; exact hR g hx) (fun e he => by subst he; exact hE e hx) (fun e he => by subst he; exact hx)
def f_X4_work_j264 (σ : xM) (s0 : Int32) : Option (Int32 × xM) :=
  some (s0, σ)
set_option maxHeartbeats 4000000 in
set_option maxRecDepth 20000 in
theorem L_X4_work_j264 {G : xG} {π : Nat → Nat} {d C Z : Nat} {Q : xQ} (σ : xM) (s0 : Int32) {x : (Int32 × xM)} (hf : f_X4_work_j264 σ s0 = some x) (hR : ∀ g, x = g → Q (.inl (some (.int g.1))) (g.2) π) : xMach G π J_X4_work (d + 5) C Z 264 [] [.int s0] σ Q := by
  unfold f_X4_work_j264 at hf
  cases hf
  exact xm_iret dX4_work_264 rfl (hR _ rfl)
def f_X4_work_j263 (σ : xM) (l1 : Int32) : Option (Int32 × xM) :=
  f_X4_work_j264 σ l1
set_option maxHeartbeats 4000000 in
set_option maxRecDepth 20000 in
theorem L_X4_work_j263 {G : xG} {π : Nat → Nat} {d C Z : Nat} {Q : xQ} (σ : xM) (l1 : Int32) {x : (Int32 × xM)} (hf : f_X4_work_j263 σ l1 = some x) (hR : ∀ g, x = g → Q (.inl (some (.int g.1))) (g.2) π) : xMach G π J_X4_work (d + 5) C Z 263 [(1, .int l1)] [] σ Q := by
  unfold f_X4_work_j263 at hf
  refine xm_iload_n dX4_work_263 rfl ?_
  exact xm_sub [] rfl (L_X4_work_j264 σ l1 hf hR)
def f_X4_work_j247 (σ : xM) (l0 : Nat) (l1 : Int32) : Option (Int32 × xM) :=
  (if l1 = (0 : Int32) then (gI σ l0 4 12).bind (fun x42 => (if x42 ≤ (0 : Int32) then f_X4_work_j263 σ l1 else f_X4_work_j264 σ (9 : Int32))) else f_X4_work_j263 σ l1)
set_option maxHeartbeats 4000000 in
set_option maxRecDepth 20000 in
theorem L_X4_work_j247 {G : xG} {π : Nat → Nat} {d C Z : Nat} {Q : xQ} (σ : xM) (l0 : Nat) (l1 : Int32) {x : (Int32 × xM)} (hf : f_X4_work_j247 σ l0 l1 = some x) (hR : ∀ g, x = g → Q (.inl (some (.int g.1))) (g.2) π) : xMach G π J_X4_work (d + 5) C Z 247 [(0, .ref l0), (1, .int l1)] [] σ Q := by
  unfold f_X4_work_j247 at hf
  refine xm_iload_n dX4_work_247 rfl ?_
  refine xb_if_ne 263 dX4_work_248 (by decide) hf (fun c hf => ?_) (fun c hf => ?_)
  · exact xm_sub [1] rfl (L_X4_work_j263 σ l1 hf hR)
  · refine xm_aload_n dX4_work_251 rfl ?_
    refine xb_getI (a := l0) (c := 4) (k := 12) dX4_work_252 xcl4 (by decide) xw_433 rfl hf (fun x42 ex42 hf => ?_)
    refine xb_if_le 263 dX4_work_255 (by decide) hf (fun c hf => ?_) (fun c hf => ?_)
    · exact xm_sub [1] rfl (L_X4_work_j263 σ l1 hf hR)
    · refine xm_bipush dX4_work_258 (v := 9) (by decide) ?_
      refine xm_goto 264 dX4_work_260 (by decide) ?_
      exact xm_sub [] rfl (L_X4_work_j264 σ (9 : Int32) hf hR)
def f_X4_work (σ : xM) (l0 : Nat) : Option (Int32 × xM) :=
  xlet (0 : Int32) (fun v1 => xlet (0 : Int32) (fun v2 => (xloop (f_X4_work_s4 ) xF (l0, v1, v2, σ)).bind (Sum.elim (fun g => some g) (fun e => f_X4_work_j247 e.2.2 e.1 e.2.1))))
set_option maxHeartbeats 4000000 in
set_option maxRecDepth 20000 in
theorem m_X4_work {G : xG} {π : Nat → Nat} {d C Z : Nat} {Q : xQ} {σ : xM} {l0 : Nat} {x : (Int32 × xM)} (hf : f_X4_work σ l0 = some x) (hR : ∀ g, x = g → Q (.inl (some (.int g.1))) (g.2) π) : xMach G π J_X4_work (d + 5) C Z 0 (lv_args 0 [.ref l0]) [] σ Q := by
  unfold f_X4_work at hf
  refine xm_stL (L' := [(0, .ref l0)]) rfl ?_
  refine xm_iconst dX4_work_0 (v := 0) (by decide) ?_
  refine xb_topi hf (fun v1 ev1 hf => ?_)
  refine xm_istore_n dX4_work_1 (by decide) (xm_stL (L' := [(1, .int v1), (0, .ref l0)]) rfl ?_)
  refine xm_iconst dX4_work_2 (v := 0) (by decide) ?_
  refine xb_topi hf (fun v2 ev2 hf => ?_)
  refine xm_istore_n dX4_work_3 (by decide) (xm_stL (L' := [(2, .int v2), (1, .int v1), (0, .ref l0)]) rfl ?_)
  obtain ⟨o, h1, hf⟩ := xbind hf
  refine xm_sub [2, 1, 0] rfl (L_X4_work_l4  h1 (fun g hg => ?_) (fun e he => ?_))
  · subst hg
    cases hf
    exact hR _ rfl
  · subst he
    rw [Sum.elim_inr] at hf
    have hf : f_X4_work_j247 e.2.2 e.1 e.2.1 = some _ := hf
    exact xm_sub [0, 1] rfl (L_X4_work_j247 e.2.2 e.1 e.2.1 hf hR)
-- Rankwise$Machine.result()LRankwise$Fraction;
def f_X4_result (σ : xM) (l0 : Nat) : Option Nat :=
  (gR σ l0 4 2).bind (fun x1 => ((aR σ x1 16 (0 : Int32)).bind id).bind (fun x2 => some x2))
set_option maxHeartbeats 4000000 in
set_option maxRecDepth 20000 in
theorem m_X4_result {G : xG} {π : Nat → Nat} {d C Z : Nat} {Q : xQ} {σ : xM} {l0 : Nat} {x : Nat} (hf : f_X4_result σ l0 = some x) (hR : ∀ g, x = g → Q (.inl (some (.ref g))) (σ) π) : xMach G π J_X4_result (d + 0) C Z 0 (lv_args 0 [.ref l0]) [] σ Q := by
  unfold f_X4_result at hf
  refine xm_stL (L' := [(0, .ref l0)]) rfl ?_
  refine xm_aload_n dX4_result_0 rfl ?_
  refine xb_getR (a := l0) (c := 4) (k := 2) dX4_result_1 xcl4 (by decide) xw_423 rfl hf (fun x1 ex1 hf => ?_)
  refine xm_iconst dX4_result_4 (v := 0) (by decide) ?_
  refine xb_aaldS dX4_result_5 (by decide) hf (fun x2 ex2 hf => ?_)
  cases hf
  exact xm_aret dX4_result_6 rfl (Or.inl ⟨_, rfl⟩) (Or.inr ⟨_, rfl⟩) (hR _ rfl)
-- Rankwise$Machine.startLine(LRankwise$Tree;)V
def f_X4_startLine (σ : xM) (l0 : Nat) (l1 : Nat) : Option xM :=
  (if xk σ l0 4 = true then (f_X4_restart σ l0).bind (fun p1 => (if xk p1 l0 4 = true then (f_X4_addTask p1 l0 (4 : Int32) (some l1) (0 : Int32) (-1 : Int32)).bind (fun p2 => some p2.2) else none)) else none)
set_option maxHeartbeats 4000000 in
set_option maxRecDepth 20000 in
theorem m_X4_startLine {G : xG} {π : Nat → Nat} {d C Z : Nat} {Q : xQ} {σ : xM} {l0 : Nat} {l1 : Nat} {x : xM} (hf : f_X4_startLine σ l0 l1 = some x) (hR : ∀ g, x = g → Q (.inl none) (g) π) : xMach G π J_X4_startLine (d + 1) C Z 0 (lv_args 0 [.ref l0, .ref l1]) [] σ Q := by
  unfold f_X4_startLine at hf
  refine xm_stL (L' := [(0, .ref l0), (1, .ref l1)]) rfl ?_
  refine xm_aload_n dX4_startLine_0 rfl ?_
  refine xb_if hf (fun hb hf => ?_) (fun _ q => nomatch q)
  obtain ⟨p1, ep1, hf⟩ := xbind hf
  refine xb_callV (As := []) (v0 := none) (τ0 := p1) dX4_startLine_1 (xc_X4_restart _ _) xcl4 xw_931 xw_932 xw_933 hb rfl (Nat.le_of_ble_eq_true rfl) rfl (Nat.le_of_ble_eq_true rfl) (fun Q1 hq => m_X4_restart (d := d + 0) ep1 (fun g hg => by subst hg; exact hq)) ?_
  refine xm_aload_n dX4_startLine_4 rfl ?_
  refine xm_iconst dX4_startLine_5 (v := 4) (by decide) ?_
  refine xm_aload_n dX4_startLine_6 rfl ?_
  refine xm_iconst dX4_startLine_7 (v := 0) (by decide) ?_
  refine xm_iconst dX4_startLine_8 (v := -1) (by decide) ?_
  refine xb_if hf (fun hb hf => ?_) (fun _ q => nomatch q)
  obtain ⟨p2, ep2, hf⟩ := xbind hf
  refine xb_callV (As := [.int (4 : Int32), va_rf (some l1), .int (0 : Int32), .int (-1 : Int32)]) (v0 := (some (.int p2.1))) (τ0 := p2.2) dX4_startLine_9 (xc_X4_addTask _ _) xcl4 xw_943 xw_945 xs_21 hb rfl (Nat.le_of_ble_eq_true rfl) rfl (Nat.le_of_ble_eq_true rfl) (fun Q1 hq => m_X4_addTask (d := d + 0) ep2 (fun g hg => by subst hg; exact hq)) ?_
  refine xm_pop dX4_startLine_12 rfl ?_
  cases hf
  exact xm_vret dX4_startLine_13 rfl (hR _ rfl)
-- Rankwise$Machine.fromTop(I)LRankwise$Fraction;
def f_X4_fromTop_j29 (σ : xM) (s0 : Int32) (s1 : Nat) : Option Nat :=
  ((aR σ s1 16 s0).bind id).bind (fun x4 => some x4)
set_option maxHeartbeats 4000000 in
set_option maxRecDepth 20000 in
theorem L_X4_fromTop_j29 {G : xG} {π : Nat → Nat} {d C Z : Nat} {Q : xQ} (σ : xM) (s0 : Int32) (s1 : Nat) {x : Nat} (hf : f_X4_fromTop_j29 σ s0 s1 = some x) (hR : ∀ g, x = g → Q (.inl (some (.ref g))) (σ) π) : xMach G π J_X4_fromTop (d + 0) C Z 29 [] [.int s0, .ref s1] σ Q := by
  unfold f_X4_fromTop_j29 at hf
  refine xb_aaldS dX4_fromTop_29 (by decide) hf (fun x4 ex4 hf => ?_)
  cases hf
  exact xm_aret dX4_fromTop_30 rfl (Or.inl ⟨_, rfl⟩) (Or.inr ⟨_, rfl⟩) (hR _ rfl)
def f_X4_fromTop_j28 (σ : xM) (s0 : Nat) : Option Nat :=
  f_X4_fromTop_j29 σ (0 : Int32) s0
set_option maxHeartbeats 4000000 in
set_option maxRecDepth 20000 in
theorem L_X4_fromTop_j28 {G : xG} {π : Nat → Nat} {d C Z : Nat} {Q : xQ} (σ : xM) (s0 : Nat) {x : Nat} (hf : f_X4_fromTop_j28 σ s0 = some x) (hR : ∀ g, x = g → Q (.inl (some (.ref g))) (σ) π) : xMach G π J_X4_fromTop (d + 0) C Z 28 [] [.ref s0] σ Q := by
  unfold f_X4_fromTop_j28 at hf
  refine xm_iconst dX4_fromTop_28 (v := 0) (by decide) ?_
  exact xm_sub [] rfl (L_X4_fromTop_j29 σ (0 : Int32) s0 hf hR)
def f_X4_fromTop (σ : xM) (l0 : Nat) (l1 : Int32) : Option Nat :=
  (gI σ l0 4 3).bind (fun x1 => xlet ((x1 - (1 : Int32)) - l1) (fun v2 => (gR σ l0 4 2).bind (fun x3 => (if v2 < (0 : Int32) then f_X4_fromTop_j28 σ x3 else (if (240 : Int32) ≤ v2 then f_X4_fromTop_j28 σ x3 else f_X4_fromTop_j29 σ v2 x3)))))
set_option maxHeartbeats 4000000 in
set_option maxRecDepth 20000 in
theorem m_X4_fromTop {G : xG} {π : Nat → Nat} {d C Z : Nat} {Q : xQ} {σ : xM} {l0 : Nat} {l1 : Int32} {x : Nat} (hf : f_X4_fromTop σ l0 l1 = some x) (hR : ∀ g, x = g → Q (.inl (some (.ref g))) (σ) π) : xMach G π J_X4_fromTop (d + 0) C Z 0 (lv_args 0 [.ref l0, .int l1]) [] σ Q := by
  unfold f_X4_fromTop at hf
  refine xm_stL (L' := [(0, .ref l0), (1, .int l1)]) rfl ?_
  refine xm_aload_n dX4_fromTop_0 rfl ?_
  refine xb_getI (a := l0) (c := 4) (k := 3) dX4_fromTop_1 xcl4 (by decide) xw_424 rfl hf (fun x1 ex1 hf => ?_)
  refine xm_iconst dX4_fromTop_4 (v := 1) (by decide) ?_
  refine xm_isub dX4_fromTop_5 ?_
  refine xm_iload_n dX4_fromTop_6 rfl ?_
  refine xm_isub dX4_fromTop_7 ?_
  refine xb_topi hf (fun v2 ev2 hf => ?_)
  refine xm_istore_n dX4_fromTop_8 (by decide) (xm_stL (L' := [(2, .int v2), (0, .ref l0), (1, .int l1)]) rfl ?_)
  refine xm_aload_n dX4_fromTop_9 rfl ?_
  refine xb_getR (a := l0) (c := 4) (k := 2) dX4_fromTop_10 xcl4 (by decide) xw_423 rfl hf (fun x3 ex3 hf => ?_)
  refine xm_iload_n dX4_fromTop_13 rfl ?_
  refine xb_if_lt 28 dX4_fromTop_14 (by decide) hf (fun c hf => ?_) (fun c hf => ?_)
  · exact xm_sub [] rfl (L_X4_fromTop_j28 σ x3 hf hR)
  · refine xm_iload_n dX4_fromTop_17 rfl ?_
    refine xm_sipush dX4_fromTop_18 (v := 240) (by decide) ?_
    refine xb_icmp_ge 28 dX4_fromTop_21 (by decide) hf (fun c hf => ?_) (fun c hf => ?_)
    · exact xm_sub [] rfl (L_X4_fromTop_j28 σ x3 hf hR)
    · refine xm_iload_n dX4_fromTop_24 rfl ?_
      refine xm_goto 29 dX4_fromTop_25 (by decide) ?_
      exact xm_sub [] rfl (L_X4_fromTop_j29 σ v2 x3 hf hR)
-- Rankwise$Machine.meaningOf(LRankwise$Tree;I)I
def f_X4_meaningOf_j33 (σ : xM) (s0 : Int32) : Option Int32 :=
  some s0
set_option maxHeartbeats 4000000 in
set_option maxRecDepth 20000 in
theorem L_X4_meaningOf_j33 {G : xG} {π : Nat → Nat} {d C Z : Nat} {Q : xQ} (σ : xM) (s0 : Int32) {x : Int32} (hf : f_X4_meaningOf_j33 σ s0 = some x) (hR : ∀ g, x = g → Q (.inl (some (.int g))) (σ) π) : xMach G π J_X4_meaningOf (d + 2) C Z 33 [] [.int s0] σ Q := by
  unfold f_X4_meaningOf_j33 at hf
  cases hf
  exact xm_iret dX4_meaningOf_33 rfl (hR _ rfl)
def f_X4_meaningOf (σ : xM) (l0 : Nat) (l1 : Nat) (l2 : Int32) : Option Int32 :=
  (gR σ l1 9 0).bind (fun x1 => (aI σ x1 14 l2).bind (fun x2 => (if x2 = (3 : Int32) then (gR σ l0 4 0).bind (fun x3 => (gR σ l1 9 1).bind (fun x4 => (aI σ x4 14 l2).bind (fun x5 => (gR σ l1 9 2).bind (fun x6 => (aI σ x6 14 l2).bind (fun x7 => (if xk σ x3 1 = true then (f_X1_meaning σ x3 x5 x7).bind (fun p8 => f_X4_meaningOf_j33 σ p8) else none)))))) else f_X4_meaningOf_j33 σ (-1 : Int32))))
set_option maxHeartbeats 4000000 in
set_option maxRecDepth 20000 in
theorem m_X4_meaningOf {G : xG} {π : Nat → Nat} {d C Z : Nat} {Q : xQ} {σ : xM} {l0 : Nat} {l1 : Nat} {l2 : Int32} {x : Int32} (hf : f_X4_meaningOf σ l0 l1 l2 = some x) (hR : ∀ g, x = g → Q (.inl (some (.int g))) (σ) π) : xMach G π J_X4_meaningOf (d + 2) C Z 0 (lv_args 0 [.ref l0, .ref l1, .int l2]) [] σ Q := by
  unfold f_X4_meaningOf at hf
  refine xm_stL (L' := [(0, .ref l0), (1, .ref l1), (2, .int l2)]) rfl ?_
  refine xm_aload_n dX4_meaningOf_0 rfl ?_
  refine xb_getR (a := l1) (c := 9) (k := 0) dX4_meaningOf_1 xcl9 (by decide) xw_196 rfl hf (fun x1 ex1 hf => ?_)
  refine xm_iload_n dX4_meaningOf_4 rfl ?_
  refine xb_iald dX4_meaningOf_5 hf (fun x2 ex2 hf => ?_)
  refine xm_iconst dX4_meaningOf_6 (v := 3) (by decide) ?_
  refine xb_icmp_ne 32 dX4_meaningOf_7 (by decide) hf (fun c hf => ?_) (fun c hf => ?_)
  · refine xm_iconst dX4_meaningOf_32 (v := -1) (by decide) ?_
    exact xm_sub [] rfl (L_X4_meaningOf_j33 σ (-1 : Int32) hf hR)
  · refine xm_aload_n dX4_meaningOf_10 rfl ?_
    refine xb_getR (a := l0) (c := 4) (k := 0) dX4_meaningOf_11 xcl4 (by decide) xw_421 rfl hf (fun x3 ex3 hf => ?_)
    refine xm_aload_n dX4_meaningOf_14 rfl ?_
    refine xb_getR (a := l1) (c := 9) (k := 1) dX4_meaningOf_15 xcl9 (by decide) xw_202 rfl hf (fun x4 ex4 hf => ?_)
    refine xm_iload_n dX4_meaningOf_18 rfl ?_
    refine xb_iald dX4_meaningOf_19 hf (fun x5 ex5 hf => ?_)
    refine xm_aload_n dX4_meaningOf_20 rfl ?_
    refine xb_getR (a := l1) (c := 9) (k := 2) dX4_meaningOf_21 xcl9 (by decide) xw_207 rfl hf (fun x6 ex6 hf => ?_)
    refine xm_iload_n dX4_meaningOf_24 rfl ?_
    refine xb_iald dX4_meaningOf_25 hf (fun x7 ex7 hf => ?_)
    refine xb_if hf (fun hb hf => ?_) (fun _ q => nomatch q)
    obtain ⟨p8, ep8, hf⟩ := xbind hf
    refine xb_callV (As := [.int x5, .int x7]) (v0 := (some (.int p8))) (τ0 := σ) dX4_meaningOf_26 (xc_X1_meaning _ _) xcl1 xw_1151 xw_891 xw_892 hb rfl (Nat.le_of_ble_eq_true rfl) rfl (Nat.le_of_ble_eq_true rfl) (fun Q1 hq => m_X1_meaning (d := d + 0) ep8 (fun g hg => by subst hg; exact hq)) ?_
    refine xm_goto 33 dX4_meaningOf_29 (by decide) ?_
    exact xm_sub [] rfl (L_X4_meaningOf_j33 σ p8 hf hR)
