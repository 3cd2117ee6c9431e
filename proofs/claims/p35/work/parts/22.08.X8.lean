-- Rankwise$Slopes.leafPart(LRankwise$Tree;II)I
def f_X8_leafPart_j46 (σ : xM) (l0 : Nat) (s0 : Int64) (s1 : Nat) : Option (Int32 × xM) :=
  (if xk σ s1 2 = true then (f_X2_set σ s1 s0).bind (fun p7 => (gI p7 l0 8 3).bind (fun x8 => (sI p7 l0 8 3 (x8 + (1 : Int32))).bind (fun σ9 => some ((0 : Int32), σ9)))) else none)
set_option maxHeartbeats 4000000 in
set_option maxRecDepth 20000 in
theorem L_X8_leafPart_j46 {G : xG} {π : Nat → Nat} {d C Z : Nat} {Q : xQ} (σ : xM) (l0 : Nat) (s0 : Int64) (s1 : Nat) {x : (Int32 × xM)} (hf : f_X8_leafPart_j46 σ l0 s0 s1 = some x) (hR : ∀ g, x = g → Q (.inl (some (.int g.1))) (g.2) π) : xMach G π J_X8_leafPart (d + 2) C Z 46 [(0, .ref l0)] [.long s0, .ref s1] σ Q := by
  unfold f_X8_leafPart_j46 at hf
  refine xb_if hf (fun hb hf => ?_) (fun _ q => nomatch q)
  obtain ⟨p7, ep7, hf⟩ := xbind hf
  refine xb_callV (As := [.long s0]) (v0 := none) (τ0 := p7) dX8_leafPart_46 (xc_X2_set _ _) xcl2 xw_1493 xw_1070 xw_1071 hb rfl (Nat.le_of_ble_eq_true rfl) rfl (Nat.le_of_ble_eq_true rfl) (fun Q1 hq => m_X2_set (d := d + 0) ep7 (fun g hg => by subst hg; exact hq)) ?_
  refine xm_aload_n dX8_leafPart_49 rfl ?_
  refine xm_dup dX8_leafPart_50 rfl ?_
  refine xb_getI (a := l0) (c := 8) (k := 3) dX8_leafPart_51 xcl8 (by decide) xw_490 rfl hf (fun x8 ex8 hf => ?_)
  refine xm_iconst dX8_leafPart_54 (v := 1) (by decide) ?_
  refine xm_iadd dX8_leafPart_55 ?_
  refine xb_putI (a := l0) (c := 8) (k := 3) dX8_leafPart_56 xcl8 (by decide) xw_490 rfl rfl hf (fun σ9 eσ9 hf => ?_)
  refine xm_iconst dX8_leafPart_59 (v := 0) (by decide) ?_
  cases hf
  exact xm_iret dX8_leafPart_60 rfl (hR _ rfl)
def f_X8_leafPart_j45 (σ : xM) (l0 : Nat) (s0 : Nat) : Option (Int32 × xM) :=
  f_X8_leafPart_j46 σ l0 (0 : Int64) s0
set_option maxHeartbeats 4000000 in
set_option maxRecDepth 20000 in
theorem L_X8_leafPart_j45 {G : xG} {π : Nat → Nat} {d C Z : Nat} {Q : xQ} (σ : xM) (l0 : Nat) (s0 : Nat) {x : (Int32 × xM)} (hf : f_X8_leafPart_j45 σ l0 s0 = some x) (hR : ∀ g, x = g → Q (.inl (some (.int g.1))) (g.2) π) : xMach G π J_X8_leafPart (d + 2) C Z 45 [(0, .ref l0)] [.ref s0] σ Q := by
  unfold f_X8_leafPart_j45 at hf
  refine xm_lconst dX8_leafPart_45 (v := 0) (by decide) ?_
  exact xm_sub [0] rfl (L_X8_leafPart_j46 σ l0 (0 : Int64) s0 hf hR)
def f_X8_leafPart (σ : xM) (l0 : Nat) (l1 : Nat) (l2 : Int32) (l3 : Int32) : Option (Int32 × xM) :=
  (gI σ l0 8 3).bind (fun x1 => (if x1 < (80 : Int32) then (gR σ l0 8 2).bind (fun x2 => (gI σ l0 8 3).bind (fun x3 => ((aR σ x2 16 x3).bind id).bind (fun x4 => (gR σ l1 9 0).bind (fun x5 => (aI σ x5 14 l2).bind (fun x6 => (if x6 = (1 : Int32) then (gR σ l1 9 1).bind (fun x10 => (aI σ x10 14 l2).bind (fun x11 => (if x11 = l3 then f_X8_leafPart_j46 σ l0 (1 : Int64) x4 else f_X8_leafPart_j45 σ l0 x4))) else f_X8_leafPart_j45 σ l0 x4)))))) else some ((9 : Int32), σ)))
set_option maxHeartbeats 4000000 in
set_option maxRecDepth 20000 in
theorem m_X8_leafPart {G : xG} {π : Nat → Nat} {d C Z : Nat} {Q : xQ} {σ : xM} {l0 : Nat} {l1 : Nat} {l2 : Int32} {l3 : Int32} {x : (Int32 × xM)} (hf : f_X8_leafPart σ l0 l1 l2 l3 = some x) (hR : ∀ g, x = g → Q (.inl (some (.int g.1))) (g.2) π) : xMach G π J_X8_leafPart (d + 2) C Z 0 (lv_args 0 [.ref l0, .ref l1, .int l2, .int l3]) [] σ Q := by
  unfold f_X8_leafPart at hf
  refine xm_stL (L' := [(0, .ref l0), (1, .ref l1), (2, .int l2), (3, .int l3)]) rfl ?_
  refine xm_aload_n dX8_leafPart_0 rfl ?_
  refine xb_getI (a := l0) (c := 8) (k := 3) dX8_leafPart_1 xcl8 (by decide) xw_490 rfl hf (fun x1 ex1 hf => ?_)
  refine xm_bipush dX8_leafPart_4 (v := 80) (by decide) ?_
  refine xb_icmp_lt 12 dX8_leafPart_6 (by decide) hf (fun c hf => ?_) (fun c hf => ?_)
  · refine xm_aload_n dX8_leafPart_12 rfl ?_
    refine xb_getR (a := l0) (c := 8) (k := 2) dX8_leafPart_13 xcl8 (by decide) xw_489 rfl hf (fun x2 ex2 hf => ?_)
    refine xm_aload_n dX8_leafPart_16 rfl ?_
    refine xb_getI (a := l0) (c := 8) (k := 3) dX8_leafPart_17 xcl8 (by decide) xw_490 rfl hf (fun x3 ex3 hf => ?_)
    refine xb_aaldS dX8_leafPart_20 (by decide) hf (fun x4 ex4 hf => ?_)
    refine xm_aload_n dX8_leafPart_21 rfl ?_
    refine xb_getR (a := l1) (c := 9) (k := 0) dX8_leafPart_22 xcl9 (by decide) xw_193 rfl hf (fun x5 ex5 hf => ?_)
    refine xm_iload_n dX8_leafPart_25 rfl ?_
    refine xb_iald dX8_leafPart_26 hf (fun x6 ex6 hf => ?_)
    refine xm_iconst dX8_leafPart_27 (v := 1) (by decide) ?_
    refine xb_icmp_ne 45 dX8_leafPart_28 (by decide) hf (fun c hf => ?_) (fun c hf => ?_)
    · exact xm_sub [0] rfl (L_X8_leafPart_j45 σ l0 x4 hf hR)
    · refine xm_aload_n dX8_leafPart_31 rfl ?_
      refine xb_getR (a := l1) (c := 9) (k := 1) dX8_leafPart_32 xcl9 (by decide) xw_199 rfl hf (fun x10 ex10 hf => ?_)
      refine xm_iload_n dX8_leafPart_35 rfl ?_
      refine xb_iald dX8_leafPart_36 hf (fun x11 ex11 hf => ?_)
      refine xm_iload_n dX8_leafPart_37 rfl ?_
      refine xb_icmp_ne 45 dX8_leafPart_38 (by decide) hf (fun c hf => ?_) (fun c hf => ?_)
      · exact xm_sub [0] rfl (L_X8_leafPart_j45 σ l0 x4 hf hR)
      · refine xm_lconst dX8_leafPart_41 (v := 1) (by decide) ?_
        refine xm_goto 46 dX8_leafPart_42 (by decide) ?_
        exact xm_sub [0] rfl (L_X8_leafPart_j46 σ l0 (1 : Int64) x4 hf hR)
  · refine xm_bipush dX8_leafPart_9 (v := 9) (by decide) ?_
    cases hf
    exact xm_iret dX8_leafPart_11 rfl (hR _ rfl)
-- Rankwise$Slopes.crosswise(LRankwise$Fraction;LRankwise$Fraction;Z)V
def f_X8_crosswise (σ : xM) (l0 : Nat) (l1 : Nat) (l2 : Nat) (l3 : Int32) : Option xM :=
  (gR σ l0 8 1).bind (fun x1 => (gR σ l0 8 6).bind (fun x2 => (gR σ l0 8 5).bind (fun x3 => (if xk σ x1 0 = true then (f_X0_times σ x1 x2 l1 x3).bind (fun p4 => (gR p4 l0 8 1).bind (fun x5 => (gR p4 l0 8 7).bind (fun x6 => (gR p4 l0 8 4).bind (fun x7 => (if xk p4 x5 0 = true then (f_X0_times p4 x5 x6 x7 l2).bind (fun p8 => (gR p8 l0 8 1).bind (fun x9 => (gR p8 l0 8 6).bind (fun x10 => (gR p8 l0 8 6).bind (fun x11 => (gR p8 l0 8 7).bind (fun x12 => (if xk p8 x9 0 = true then (f_X0_sum p8 x9 x10 x11 x12 l3).bind (fun p13 => some p13) else none)))))) else none))))) else none))))
set_option maxHeartbeats 4000000 in
set_option maxRecDepth 20000 in
theorem m_X8_crosswise {G : xG} {π : Nat → Nat} {d C Z : Nat} {Q : xQ} {σ : xM} {l0 : Nat} {l1 : Nat} {l2 : Nat} {l3 : Int32} {x : xM} (hf : f_X8_crosswise σ l0 l1 l2 l3 = some x) (hR : ∀ g, x = g → Q (.inl none) (g) π) : xMach G π J_X8_crosswise (d + 3) C Z 0 (lv_args 0 [.ref l0, .ref l1, .ref l2, .int l3]) [] σ Q := by
  unfold f_X8_crosswise at hf
  refine xm_stL (L' := [(0, .ref l0), (1, .ref l1), (2, .ref l2), (3, .int l3)]) rfl ?_
  refine xm_aload_n dX8_crosswise_0 rfl ?_
  refine xb_getR (a := l0) (c := 8) (k := 1) dX8_crosswise_1 xcl8 (by decide) xw_488 rfl hf (fun x1 ex1 hf => ?_)
  refine xm_aload_n dX8_crosswise_4 rfl ?_
  refine xb_getR (a := l0) (c := 8) (k := 6) dX8_crosswise_5 xcl8 (by decide) xw_493 rfl hf (fun x2 ex2 hf => ?_)
  refine xm_aload_n dX8_crosswise_8 rfl ?_
  refine xm_aload_n dX8_crosswise_9 rfl ?_
  refine xb_getR (a := l0) (c := 8) (k := 5) dX8_crosswise_10 xcl8 (by decide) xw_492 rfl hf (fun x3 ex3 hf => ?_)
  refine xb_if hf (fun hb hf => ?_) (fun _ q => nomatch q)
  obtain ⟨p4, ep4, hf⟩ := xbind hf
  refine xb_callV (As := [.ref x2, .ref l1, .ref x3]) (v0 := none) (τ0 := p4) dX8_crosswise_13 (xc_X0_times _ _) xcl0 xw_1504 xw_1160 xw_1161 hb rfl (Nat.le_of_ble_eq_true rfl) rfl (Nat.le_of_ble_eq_true rfl) (fun Q1 hq => m_X0_times (d := d + 0) ep4 (fun g hg => by subst hg; exact hq)) ?_
  refine xm_aload_n dX8_crosswise_16 rfl ?_
  refine xb_getR (a := l0) (c := 8) (k := 1) dX8_crosswise_17 xcl8 (by decide) xw_488 rfl hf (fun x5 ex5 hf => ?_)
  refine xm_aload_n dX8_crosswise_20 rfl ?_
  refine xb_getR (a := l0) (c := 8) (k := 7) dX8_crosswise_21 xcl8 (by decide) xw_494 rfl hf (fun x6 ex6 hf => ?_)
  refine xm_aload_n dX8_crosswise_24 rfl ?_
  refine xb_getR (a := l0) (c := 8) (k := 4) dX8_crosswise_25 xcl8 (by decide) xw_491 rfl hf (fun x7 ex7 hf => ?_)
  refine xm_aload_n dX8_crosswise_28 rfl ?_
  refine xb_if hf (fun hb hf => ?_) (fun _ q => nomatch q)
  obtain ⟨p8, ep8, hf⟩ := xbind hf
  refine xb_callV (As := [.ref x6, .ref x7, .ref l2]) (v0 := none) (τ0 := p8) dX8_crosswise_29 (xc_X0_times _ _) xcl0 xw_1504 xw_1160 xw_1161 hb rfl (Nat.le_of_ble_eq_true rfl) rfl (Nat.le_of_ble_eq_true rfl) (fun Q1 hq => m_X0_times (d := d + 0) ep8 (fun g hg => by subst hg; exact hq)) ?_
  refine xm_aload_n dX8_crosswise_32 rfl ?_
  refine xb_getR (a := l0) (c := 8) (k := 1) dX8_crosswise_33 xcl8 (by decide) xw_488 rfl hf (fun x9 ex9 hf => ?_)
  refine xm_aload_n dX8_crosswise_36 rfl ?_
  refine xb_getR (a := l0) (c := 8) (k := 6) dX8_crosswise_37 xcl8 (by decide) xw_493 rfl hf (fun x10 ex10 hf => ?_)
  refine xm_aload_n dX8_crosswise_40 rfl ?_
  refine xb_getR (a := l0) (c := 8) (k := 6) dX8_crosswise_41 xcl8 (by decide) xw_493 rfl hf (fun x11 ex11 hf => ?_)
  refine xm_aload_n dX8_crosswise_44 rfl ?_
  refine xb_getR (a := l0) (c := 8) (k := 7) dX8_crosswise_45 xcl8 (by decide) xw_494 rfl hf (fun x12 ex12 hf => ?_)
  refine xm_iload_n dX8_crosswise_48 rfl ?_
  refine xb_if hf (fun hb hf => ?_) (fun _ q => nomatch q)
  obtain ⟨p13, ep13, hf⟩ := xbind hf
  refine xb_callV (As := [.ref x10, .ref x11, .ref x12, .int l3]) (v0 := none) (τ0 := p13) dX8_crosswise_49 (xc_X0_sum _ _) xcl0 xw_1498 xw_1038 xw_1039 hb rfl (Nat.le_of_ble_eq_true rfl) rfl (Nat.le_of_ble_eq_true rfl) (fun Q1 hq => m_X0_sum (d := d + 0) ep13 (fun g hg => by subst hg; exact hq)) ?_
  cases hf
  exact xm_vret dX8_crosswise_52 rfl (hR _ rfl)
-- Rankwise$Slopes.powerPart(LRankwise$Fraction;I)V
def f_X8_powerPart (σ : xM) (l0 : Nat) (l1 : Nat) (l2 : Int32) : Option xM :=
  (if l2 = (0 : Int32) then (gR σ l0 8 6).bind (fun x14 => (if xk σ x14 2 = true then (f_X2_set σ x14 (0 : Int64)).bind (fun p15 => some p15) else none)) else (gR σ l0 8 1).bind (fun x1 => (gR σ l0 8 6).bind (fun x2 => (gR σ l0 8 4).bind (fun x3 => (if xk σ x1 0 = true then (f_X0_power σ x1 x2 x3 (l2 - (1 : Int32))).bind (fun p4 => (gR p4.2 l0 8 1).bind (fun x5 => (gR p4.2 l0 8 6).bind (fun x6 => (gR p4.2 l0 8 6).bind (fun x7 => (gR p4.2 l0 8 5).bind (fun x8 => (if xk p4.2 x5 0 = true then (f_X0_times p4.2 x5 x6 x7 x8).bind (fun p9 => (gR p9 l0 8 1).bind (fun x10 => (gR p9 l0 8 6).bind (fun x11 => (gR p9 l0 8 6).bind (fun x12 => (if xk p9 x10 0 = true then (f_X0_times p9 x10 x11 x12 l1).bind (fun p13 => some p13) else none))))) else none)))))) else none)))))
set_option maxHeartbeats 4000000 in
set_option maxRecDepth 20000 in
theorem m_X8_powerPart {G : xG} {π : Nat → Nat} {d C Z : Nat} {Q : xQ} {σ : xM} {l0 : Nat} {l1 : Nat} {l2 : Int32} {x : xM} (hf : f_X8_powerPart σ l0 l1 l2 = some x) (hR : ∀ g, x = g → Q (.inl none) (g) π) : xMach G π J_X8_powerPart (d + 3) C Z 0 (lv_args 0 [.ref l0, .ref l1, .int l2]) [] σ Q := by
  unfold f_X8_powerPart at hf
  refine xm_stL (L' := [(0, .ref l0), (1, .ref l1), (2, .int l2)]) rfl ?_
  refine xm_iload_n dX8_powerPart_0 rfl ?_
  refine xb_if_ne 13 dX8_powerPart_1 (by decide) hf (fun c hf => ?_) (fun c hf => ?_)
  · refine xm_aload_n dX8_powerPart_13 rfl ?_
    refine xb_getR (a := l0) (c := 8) (k := 1) dX8_powerPart_14 xcl8 (by decide) xw_488 rfl hf (fun x1 ex1 hf => ?_)
    refine xm_aload_n dX8_powerPart_17 rfl ?_
    refine xb_getR (a := l0) (c := 8) (k := 6) dX8_powerPart_18 xcl8 (by decide) xw_493 rfl hf (fun x2 ex2 hf => ?_)
    refine xm_aload_n dX8_powerPart_21 rfl ?_
    refine xb_getR (a := l0) (c := 8) (k := 4) dX8_powerPart_22 xcl8 (by decide) xw_491 rfl hf (fun x3 ex3 hf => ?_)
    refine xm_iload_n dX8_powerPart_25 rfl ?_
    refine xm_iconst dX8_powerPart_26 (v := 1) (by decide) ?_
    refine xm_isub dX8_powerPart_27 ?_
    refine xb_if hf (fun hb hf => ?_) (fun _ q => nomatch q)
    obtain ⟨p4, ep4, hf⟩ := xbind hf
    refine xb_callV (As := [.ref x2, .ref x3, .int (l2 - (1 : Int32))]) (v0 := (some (.int p4.1))) (τ0 := p4.2) dX8_powerPart_28 (xc_X0_power _ _) xcl0 xw_1511 xw_1172 xw_1173 hb rfl (Nat.le_of_ble_eq_true rfl) rfl (Nat.le_of_ble_eq_true rfl) (fun Q1 hq => m_X0_power (d := d + 0) ep4 (fun g hg => by subst hg; exact hq)) ?_
    refine xm_pop dX8_powerPart_31 rfl ?_
    refine xm_aload_n dX8_powerPart_32 rfl ?_
    refine xb_getR (a := l0) (c := 8) (k := 1) dX8_powerPart_33 xcl8 (by decide) xw_488 rfl hf (fun x5 ex5 hf => ?_)
    refine xm_aload_n dX8_powerPart_36 rfl ?_
    refine xb_getR (a := l0) (c := 8) (k := 6) dX8_powerPart_37 xcl8 (by decide) xw_493 rfl hf (fun x6 ex6 hf => ?_)
    refine xm_aload_n dX8_powerPart_40 rfl ?_
    refine xb_getR (a := l0) (c := 8) (k := 6) dX8_powerPart_41 xcl8 (by decide) xw_493 rfl hf (fun x7 ex7 hf => ?_)
    refine xm_aload_n dX8_powerPart_44 rfl ?_
    refine xb_getR (a := l0) (c := 8) (k := 5) dX8_powerPart_45 xcl8 (by decide) xw_492 rfl hf (fun x8 ex8 hf => ?_)
    refine xb_if hf (fun hb hf => ?_) (fun _ q => nomatch q)
    obtain ⟨p9, ep9, hf⟩ := xbind hf
    refine xb_callV (As := [.ref x6, .ref x7, .ref x8]) (v0 := none) (τ0 := p9) dX8_powerPart_48 (xc_X0_times _ _) xcl0 xw_1504 xw_1160 xw_1161 hb rfl (Nat.le_of_ble_eq_true rfl) rfl (Nat.le_of_ble_eq_true rfl) (fun Q1 hq => m_X0_times (d := d + 0) ep9 (fun g hg => by subst hg; exact hq)) ?_
    refine xm_aload_n dX8_powerPart_51 rfl ?_
    refine xb_getR (a := l0) (c := 8) (k := 1) dX8_powerPart_52 xcl8 (by decide) xw_488 rfl hf (fun x10 ex10 hf => ?_)
    refine xm_aload_n dX8_powerPart_55 rfl ?_
    refine xb_getR (a := l0) (c := 8) (k := 6) dX8_powerPart_56 xcl8 (by decide) xw_493 rfl hf (fun x11 ex11 hf => ?_)
    refine xm_aload_n dX8_powerPart_59 rfl ?_
    refine xb_getR (a := l0) (c := 8) (k := 6) dX8_powerPart_60 xcl8 (by decide) xw_493 rfl hf (fun x12 ex12 hf => ?_)
    refine xm_aload_n dX8_powerPart_63 rfl ?_
    refine xb_if hf (fun hb hf => ?_) (fun _ q => nomatch q)
    obtain ⟨p13, ep13, hf⟩ := xbind hf
    refine xb_callV (As := [.ref x11, .ref x12, .ref l1]) (v0 := none) (τ0 := p13) dX8_powerPart_64 (xc_X0_times _ _) xcl0 xw_1504 xw_1160 xw_1161 hb rfl (Nat.le_of_ble_eq_true rfl) rfl (Nat.le_of_ble_eq_true rfl) (fun Q1 hq => m_X0_times (d := d + 0) ep13 (fun g hg => by subst hg; exact hq)) ?_
    cases hf
    exact xm_vret dX8_powerPart_67 rfl (hR _ rfl)
  · refine xm_aload_n dX8_powerPart_4 rfl ?_
    refine xb_getR (a := l0) (c := 8) (k := 6) dX8_powerPart_5 xcl8 (by decide) xw_493 rfl hf (fun x14 ex14 hf => ?_)
    refine xm_lconst dX8_powerPart_8 (v := 0) (by decide) ?_
    refine xb_if hf (fun hb hf => ?_) (fun _ q => nomatch q)
    obtain ⟨p15, ep15, hf⟩ := xbind hf
    refine xb_callV (As := [.long (0 : Int64)]) (v0 := none) (τ0 := p15) dX8_powerPart_9 (xc_X2_set _ _) xcl2 xw_1493 xw_1070 xw_1071 hb rfl (Nat.le_of_ble_eq_true rfl) rfl (Nat.le_of_ble_eq_true rfl) (fun Q1 hq => m_X2_set (d := d + 1) ep15 (fun g hg => by subst hg; exact hq)) ?_
    cases hf
    exact xm_vret dX8_powerPart_12 rfl (hR _ rfl)
-- Rankwise$Slopes.operatorPart(I)I
def f_X8_operatorPart_j244 (σ : xM) (l0 : Nat) (l2 : Int32) (l3 : Nat) : Option (Int32 × xM) :=
  (gR σ l0 8 1).bind (fun x12 => (gR σ l0 8 6).bind (fun x13 => (if xk σ x12 0 = true then (f_X0_settle σ x12 x13).bind (fun p14 => (gR p14 l0 8 6).bind (fun x15 => (if xk p14 x15 2 = true then (f_X2_fits p14 x15).bind (fun p16 => (if p16 = (0 : Int32) then some ((3 : Int32), p14) else (gR p14 l0 8 6).bind (fun x17 => (if xk p14 l3 2 = true then (f_X2_copy p14 l3 x17).bind (fun p18 => (gI p18 l0 8 3).bind (fun x19 => (sI p18 l0 8 3 (x19 - (l2 - (1 : Int32)))).bind (fun σ20 => some ((0 : Int32), σ20)))) else none)))) else none))) else none)))
set_option maxHeartbeats 4000000 in
set_option maxRecDepth 20000 in
theorem L_X8_operatorPart_j244 {G : xG} {π : Nat → Nat} {d C Z : Nat} {Q : xQ} (σ : xM) (l0 : Nat) (l2 : Int32) (l3 : Nat) {x : (Int32 × xM)} (hf : f_X8_operatorPart_j244 σ l0 l2 l3 = some x) (hR : ∀ g, x = g → Q (.inl (some (.int g.1))) (g.2) π) : xMach G π J_X8_operatorPart (d + 4) C Z 244 [(0, .ref l0), (2, .int l2), (3, .ref l3)] [] σ Q := by
  unfold f_X8_operatorPart_j244 at hf
  refine xm_aload_n dX8_operatorPart_244 rfl ?_
  refine xb_getR (a := l0) (c := 8) (k := 1) dX8_operatorPart_245 xcl8 (by decide) xw_488 rfl hf (fun x12 ex12 hf => ?_)
  refine xm_aload_n dX8_operatorPart_248 rfl ?_
  refine xb_getR (a := l0) (c := 8) (k := 6) dX8_operatorPart_249 xcl8 (by decide) xw_493 rfl hf (fun x13 ex13 hf => ?_)
  refine xb_if hf (fun hb hf => ?_) (fun _ q => nomatch q)
  obtain ⟨p14, ep14, hf⟩ := xbind hf
  refine xb_callV (As := [.ref x13]) (v0 := none) (τ0 := p14) dX8_operatorPart_252 (xc_X0_settle _ _) xcl0 xw_1512 xw_1082 xw_1083 hb rfl (Nat.le_of_ble_eq_true rfl) rfl (Nat.le_of_ble_eq_true rfl) (fun Q1 hq => m_X0_settle (d := d + 1) ep14 (fun g hg => by subst hg; exact hq)) ?_
  refine xm_aload_n dX8_operatorPart_255 rfl ?_
  refine xb_getR (a := l0) (c := 8) (k := 6) dX8_operatorPart_256 xcl8 (by decide) xw_493 rfl hf (fun x15 ex15 hf => ?_)
  refine xb_if hf (fun hb hf => ?_) (fun _ q => nomatch q)
  obtain ⟨p16, ep16, hf⟩ := xbind hf
  refine xb_callV (As := []) (v0 := (some (.int p16))) (τ0 := p14) dX8_operatorPart_259 (xc_X2_fits _ _) xcl2 xw_1513 xw_1124 xw_1125 hb rfl (Nat.le_of_ble_eq_true rfl) rfl (Nat.le_of_ble_eq_true rfl) (fun Q1 hq => m_X2_fits (d := d + 2) ep16 (fun g hg => by subst hg; exact hq)) ?_
  refine xb_if_ne 267 dX8_operatorPart_262 (by decide) hf (fun c hf => ?_) (fun c hf => ?_)
  · refine xm_aload_n dX8_operatorPart_267 rfl ?_
    refine xm_aload_n dX8_operatorPart_268 rfl ?_
    refine xb_getR (a := l0) (c := 8) (k := 6) dX8_operatorPart_269 xcl8 (by decide) xw_493 rfl hf (fun x17 ex17 hf => ?_)
    refine xb_if hf (fun hb hf => ?_) (fun _ q => nomatch q)
    obtain ⟨p18, ep18, hf⟩ := xbind hf
    refine xb_callV (As := [.ref x17]) (v0 := none) (τ0 := p18) dX8_operatorPart_272 (xc_X2_copy _ _) xcl2 xw_1483 xw_965 xw_966 hb rfl (Nat.le_of_ble_eq_true rfl) rfl (Nat.le_of_ble_eq_true rfl) (fun Q1 hq => m_X2_copy (d := d + 1) ep18 (fun g hg => by subst hg; exact hq)) ?_
    refine xm_aload_n dX8_operatorPart_275 rfl ?_
    refine xm_dup dX8_operatorPart_276 rfl ?_
    refine xb_getI (a := l0) (c := 8) (k := 3) dX8_operatorPart_277 xcl8 (by decide) xw_490 rfl hf (fun x19 ex19 hf => ?_)
    refine xm_iload_n dX8_operatorPart_280 rfl ?_
    refine xm_iconst dX8_operatorPart_281 (v := 1) (by decide) ?_
    refine xm_isub dX8_operatorPart_282 ?_
    refine xm_isub dX8_operatorPart_283 ?_
    refine xb_putI (a := l0) (c := 8) (k := 3) dX8_operatorPart_284 xcl8 (by decide) xw_490 rfl rfl hf (fun σ20 eσ20 hf => ?_)
    refine xm_iconst dX8_operatorPart_287 (v := 0) (by decide) ?_
    cases hf
    exact xm_iret dX8_operatorPart_288 rfl (hR _ rfl)
  · refine xm_iconst dX8_operatorPart_265 (v := 3) (by decide) ?_
    cases hf
    exact xm_iret dX8_operatorPart_266 rfl (hR _ rfl)
def f_X8_operatorPart_j229 (σ : xM) (l0 : Nat) (l2 : Int32) (l3 : Nat) : Option (Int32 × xM) :=
  (gR σ l0 8 5).bind (fun x8 => (gR σ x8 2 0).bind (fun x9 => (if xk σ x9 10 = true then (f_X10_clamped σ x9).bind (fun p10 => (if xk σ l0 8 = true then (f_X8_powerPart σ l0 l3 p10).bind (fun p11 => f_X8_operatorPart_j244 p11 l0 l2 l3) else none)) else none)))
set_option maxHeartbeats 4000000 in
set_option maxRecDepth 20000 in
theorem L_X8_operatorPart_j229 {G : xG} {π : Nat → Nat} {d C Z : Nat} {Q : xQ} (σ : xM) (l0 : Nat) (l2 : Int32) (l3 : Nat) {x : (Int32 × xM)} (hf : f_X8_operatorPart_j229 σ l0 l2 l3 = some x) (hR : ∀ g, x = g → Q (.inl (some (.int g.1))) (g.2) π) : xMach G π J_X8_operatorPart (d + 4) C Z 229 [(0, .ref l0), (2, .int l2), (3, .ref l3)] [] σ Q := by
  unfold f_X8_operatorPart_j229 at hf
  refine xm_aload_n dX8_operatorPart_229 rfl ?_
  refine xm_aload_n dX8_operatorPart_230 rfl ?_
  refine xm_aload_n dX8_operatorPart_231 rfl ?_
  refine xb_getR (a := l0) (c := 8) (k := 5) dX8_operatorPart_232 xcl8 (by decide) xw_492 rfl hf (fun x8 ex8 hf => ?_)
  refine xb_getR (a := x8) (c := 2) (k := 0) dX8_operatorPart_235 xcl2 (by decide) xw_258 rfl hf (fun x9 ex9 hf => ?_)
  refine xb_if hf (fun hb hf => ?_) (fun _ q => nomatch q)
  obtain ⟨p10, ep10, hf⟩ := xbind hf
  refine xb_callV (As := []) (v0 := (some (.int p10))) (τ0 := σ) dX8_operatorPart_238 (xc_X10_clamped _ _) xcl10 xw_1506 xw_1061 xw_1062 hb rfl (Nat.le_of_ble_eq_true rfl) rfl (Nat.le_of_ble_eq_true rfl) (fun Q1 hq => m_X10_clamped (d := d + 3) ep10 (fun g hg => by subst hg; exact hq)) ?_
  refine xb_if hf (fun hb hf => ?_) (fun _ q => nomatch q)
  obtain ⟨p11, ep11, hf⟩ := xbind hf
  refine xb_callV (As := [.ref l3, .int p10]) (v0 := none) (τ0 := p11) dX8_operatorPart_241 (xc_X8_powerPart _ _) xcl8 xw_1507 xw_1509 xs_67 hb rfl (Nat.le_of_ble_eq_true rfl) rfl (Nat.le_of_ble_eq_true rfl) (fun Q1 hq => m_X8_powerPart (d := d + 0) ep11 (fun g hg => by subst hg; exact hq)) ?_
  exact xm_sub [0, 1, 2] rfl (L_X8_operatorPart_j244 p11 l0 l2 l3 hf hR)
def f_X8_operatorPart_j11 (σ : xM) (l0 : Nat) (l1 : Int32) (s0 : Int32) : Option (Int32 × xM) :=
  (gI σ l0 8 3).bind (fun x1 => (if s0 ≤ x1 then (gR σ l0 8 2).bind (fun x2 => (gI σ l0 8 3).bind (fun x3 => ((aR σ x2 16 (x3 - s0)).bind id).bind (fun x4 => (gR σ l0 8 2).bind (fun x5 => (gI σ l0 8 3).bind (fun x6 => ((aR σ x5 16 (x6 - (1 : Int32))).bind id).bind (fun x7 => (if l1 = (0 : Int32) then (gR σ l0 8 1).bind (fun x21 => (gR σ l0 8 6).bind (fun x22 => (if xk σ x21 0 = true then (f_X0_sum σ x21 x22 x4 x7 (0 : Int32)).bind (fun p23 => f_X8_operatorPart_j244 p23 l0 s0 x4) else none))) else (if l1 = (1 : Int32) then (gR σ l0 8 1).bind (fun x24 => (gR σ l0 8 6).bind (fun x25 => (if xk σ x24 0 = true then (f_X0_sum σ x24 x25 x4 x7 (1 : Int32)).bind (fun p26 => f_X8_operatorPart_j244 p26 l0 s0 x4) else none))) else (if l1 = (2 : Int32) then (if xk σ l0 8 = true then (f_X8_crosswise σ l0 x4 x7 (0 : Int32)).bind (fun p27 => f_X8_operatorPart_j244 p27 l0 s0 x4) else none) else (if l1 = (3 : Int32) then (if xk σ l0 8 = true then (f_X8_crosswise σ l0 x4 x7 (1 : Int32)).bind (fun p28 => (gR p28 l0 8 1).bind (fun x29 => (gR p28 l0 8 7).bind (fun x30 => (gR p28 l0 8 5).bind (fun x31 => (gR p28 l0 8 5).bind (fun x32 => (if xk p28 x29 0 = true then (f_X0_times p28 x29 x30 x31 x32).bind (fun p33 => (gR p33 l0 8 1).bind (fun x34 => (gR p33 l0 8 6).bind (fun x35 => (gR p33 l0 8 6).bind (fun x36 => (gR p33 l0 8 7).bind (fun x37 => (if xk p33 x34 0 = true then (f_X0_over p33 x34 x35 x36 x37).bind (fun p38 => f_X8_operatorPart_j244 p38 l0 s0 x4) else none)))))) else none)))))) else none) else (if l1 = (4 : Int32) then f_X8_operatorPart_j229 σ l0 s0 x4 else (if l1 = (5 : Int32) then f_X8_operatorPart_j229 σ l0 s0 x4 else (if l1 = (6 : Int32) then f_X8_operatorPart_j229 σ l0 s0 x4 else (if l1 = (7 : Int32) then f_X8_operatorPart_j229 σ l0 s0 x4 else (if l1 = (8 : Int32) then f_X8_operatorPart_j229 σ l0 s0 x4 else (if l1 = (9 : Int32) then f_X8_operatorPart_j229 σ l0 s0 x4 else (if l1 = (10 : Int32) then f_X8_operatorPart_j229 σ l0 s0 x4 else (if l1 = (11 : Int32) then (gR σ l0 8 6).bind (fun x39 => (if xk σ x39 2 = true then (f_X2_copy σ x39 x4).bind (fun p40 => (gR p40 l0 8 6).bind (fun x41 => (gR p40 x41 2 0).bind (fun x42 => (if xk p40 x42 10 = true then (f_X10_flip p40 x42).bind (fun p43 => f_X8_operatorPart_j244 p43 l0 s0 x4) else none)))) else none)) else f_X8_operatorPart_j229 σ l0 s0 x4)))))))))))))))))) else some ((9 : Int32), σ)))
set_option maxHeartbeats 4000000 in
set_option maxRecDepth 20000 in
theorem L_X8_operatorPart_j11 {G : xG} {π : Nat → Nat} {d C Z : Nat} {Q : xQ} (σ : xM) (l0 : Nat) (l1 : Int32) (s0 : Int32) {x : (Int32 × xM)} (hf : f_X8_operatorPart_j11 σ l0 l1 s0 = some x) (hR : ∀ g, x = g → Q (.inl (some (.int g.1))) (g.2) π) : xMach G π J_X8_operatorPart (d + 4) C Z 11 [(0, .ref l0), (1, .int l1)] [.int s0] σ Q := by
  unfold f_X8_operatorPart_j11 at hf
  refine xm_istore_n dX8_operatorPart_11 (by decide) (xm_stL (L' := [(2, .int s0), (0, .ref l0), (1, .int l1)]) rfl ?_)
  refine xm_aload_n dX8_operatorPart_12 rfl ?_
  refine xb_getI (a := l0) (c := 8) (k := 3) dX8_operatorPart_13 xcl8 (by decide) xw_490 rfl hf (fun x1 ex1 hf => ?_)
  refine xm_iload_n dX8_operatorPart_16 rfl ?_
  refine xb_icmp_ge 23 dX8_operatorPart_17 (by decide) hf (fun c hf => ?_) (fun c hf => ?_)
  · refine xm_aload_n dX8_operatorPart_23 rfl ?_
    refine xb_getR (a := l0) (c := 8) (k := 2) dX8_operatorPart_24 xcl8 (by decide) xw_489 rfl hf (fun x2 ex2 hf => ?_)
    refine xm_aload_n dX8_operatorPart_27 rfl ?_
    refine xb_getI (a := l0) (c := 8) (k := 3) dX8_operatorPart_28 xcl8 (by decide) xw_490 rfl hf (fun x3 ex3 hf => ?_)
    refine xm_iload_n dX8_operatorPart_31 rfl ?_
    refine xm_isub dX8_operatorPart_32 ?_
    refine xb_aaldS dX8_operatorPart_33 (by decide) hf (fun x4 ex4 hf => ?_)
    refine xm_astore_n dX8_operatorPart_34 (by decide) (xm_stL (L' := [(3, .ref x4), (2, .int s0), (0, .ref l0), (1, .int l1)]) rfl ?_)
    refine xm_aload_n dX8_operatorPart_35 rfl ?_
    refine xb_getR (a := l0) (c := 8) (k := 2) dX8_operatorPart_36 xcl8 (by decide) xw_489 rfl hf (fun x5 ex5 hf => ?_)
    refine xm_aload_n dX8_operatorPart_39 rfl ?_
    refine xb_getI (a := l0) (c := 8) (k := 3) dX8_operatorPart_40 xcl8 (by decide) xw_490 rfl hf (fun x6 ex6 hf => ?_)
    refine xm_iconst dX8_operatorPart_43 (v := 1) (by decide) ?_
    refine xm_isub dX8_operatorPart_44 ?_
    refine xb_aaldS dX8_operatorPart_45 (by decide) hf (fun x7 ex7 hf => ?_)
    refine xm_astore dX8_operatorPart_46 (by decide) (xm_stL (L' := [(4, .ref x7), (3, .ref x4), (2, .int s0), (0, .ref l0), (1, .int l1)]) rfl ?_)
    refine xm_iload_n dX8_operatorPart_48 rfl ?_
    refine xb_if hf (fun c hf => ?_) (fun n0 hf => ?_)
    · refine xm_tableIn 112 dX8_operatorPart_49 (by rw [c]; decide) (by rw [c]; decide) (by rw [c]; rfl) (by decide) ?_
      refine xm_aload_n dX8_operatorPart_112 rfl ?_
      refine xb_getR (a := l0) (c := 8) (k := 1) dX8_operatorPart_113 xcl8 (by decide) xw_488 rfl hf (fun x21 ex21 hf => ?_)
      refine xm_aload_n dX8_operatorPart_116 rfl ?_
      refine xb_getR (a := l0) (c := 8) (k := 6) dX8_operatorPart_117 xcl8 (by decide) xw_493 rfl hf (fun x22 ex22 hf => ?_)
      refine xm_aload_n dX8_operatorPart_120 rfl ?_
      refine xm_aload dX8_operatorPart_121 rfl ?_
      refine xm_iconst dX8_operatorPart_123 (v := 0) (by decide) ?_
      refine xb_if hf (fun hb hf => ?_) (fun _ q => nomatch q)
      obtain ⟨p23, ep23, hf⟩ := xbind hf
      refine xb_callV (As := [.ref x22, .ref x4, .ref x7, .int (0 : Int32)]) (v0 := none) (τ0 := p23) dX8_operatorPart_124 (xc_X0_sum _ _) xcl0 xw_1498 xw_1038 xw_1039 hb rfl (Nat.le_of_ble_eq_true rfl) rfl (Nat.le_of_ble_eq_true rfl) (fun Q1 hq => m_X0_sum (d := d + 1) ep23 (fun g hg => by subst hg; exact hq)) ?_
      refine xm_goto 244 dX8_operatorPart_127 (by decide) ?_
      exact xm_sub [3, 2, 1] rfl (L_X8_operatorPart_j244 p23 l0 s0 x4 hf hR)
    refine xb_if hf (fun c hf => ?_) (fun n1 hf => ?_)
    · refine xm_tableIn 130 dX8_operatorPart_49 (by rw [c]; decide) (by rw [c]; decide) (by rw [c]; rfl) (by decide) ?_
      refine xm_aload_n dX8_operatorPart_130 rfl ?_
      refine xb_getR (a := l0) (c := 8) (k := 1) dX8_operatorPart_131 xcl8 (by decide) xw_488 rfl hf (fun x24 ex24 hf => ?_)
      refine xm_aload_n dX8_operatorPart_134 rfl ?_
      refine xb_getR (a := l0) (c := 8) (k := 6) dX8_operatorPart_135 xcl8 (by decide) xw_493 rfl hf (fun x25 ex25 hf => ?_)
      refine xm_aload_n dX8_operatorPart_138 rfl ?_
      refine xm_aload dX8_operatorPart_139 rfl ?_
      refine xm_iconst dX8_operatorPart_141 (v := 1) (by decide) ?_
      refine xb_if hf (fun hb hf => ?_) (fun _ q => nomatch q)
      obtain ⟨p26, ep26, hf⟩ := xbind hf
      refine xb_callV (As := [.ref x25, .ref x4, .ref x7, .int (1 : Int32)]) (v0 := none) (τ0 := p26) dX8_operatorPart_142 (xc_X0_sum _ _) xcl0 xw_1498 xw_1038 xw_1039 hb rfl (Nat.le_of_ble_eq_true rfl) rfl (Nat.le_of_ble_eq_true rfl) (fun Q1 hq => m_X0_sum (d := d + 1) ep26 (fun g hg => by subst hg; exact hq)) ?_
      refine xm_goto 244 dX8_operatorPart_145 (by decide) ?_
      exact xm_sub [3, 2, 1] rfl (L_X8_operatorPart_j244 p26 l0 s0 x4 hf hR)
    refine xb_if hf (fun c hf => ?_) (fun n2 hf => ?_)
    · refine xm_tableIn 169 dX8_operatorPart_49 (by rw [c]; decide) (by rw [c]; decide) (by rw [c]; rfl) (by decide) ?_
      refine xm_aload_n dX8_operatorPart_169 rfl ?_
      refine xm_aload_n dX8_operatorPart_170 rfl ?_
      refine xm_aload dX8_operatorPart_171 rfl ?_
      refine xm_iconst dX8_operatorPart_173 (v := 0) (by decide) ?_
      refine xb_if hf (fun hb hf => ?_) (fun _ q => nomatch q)
      obtain ⟨p27, ep27, hf⟩ := xbind hf
      refine xb_callV (As := [.ref x4, .ref x7, .int (0 : Int32)]) (v0 := none) (τ0 := p27) dX8_operatorPart_174 (xc_X8_crosswise _ _) xcl8 xw_1500 xw_1502 xs_66 hb rfl (Nat.le_of_ble_eq_true rfl) rfl (Nat.le_of_ble_eq_true rfl) (fun Q1 hq => m_X8_crosswise (d := d + 0) ep27 (fun g hg => by subst hg; exact hq)) ?_
      refine xm_goto 244 dX8_operatorPart_177 (by decide) ?_
      exact xm_sub [3, 2, 1] rfl (L_X8_operatorPart_j244 p27 l0 s0 x4 hf hR)
    refine xb_if hf (fun c hf => ?_) (fun n3 hf => ?_)
    · refine xm_tableIn 180 dX8_operatorPart_49 (by rw [c]; decide) (by rw [c]; decide) (by rw [c]; rfl) (by decide) ?_
      refine xm_aload_n dX8_operatorPart_180 rfl ?_
      refine xm_aload_n dX8_operatorPart_181 rfl ?_
      refine xm_aload dX8_operatorPart_182 rfl ?_
      refine xm_iconst dX8_operatorPart_184 (v := 1) (by decide) ?_
      refine xb_if hf (fun hb hf => ?_) (fun _ q => nomatch q)
      obtain ⟨p28, ep28, hf⟩ := xbind hf
      refine xb_callV (As := [.ref x4, .ref x7, .int (1 : Int32)]) (v0 := none) (τ0 := p28) dX8_operatorPart_185 (xc_X8_crosswise _ _) xcl8 xw_1500 xw_1502 xs_66 hb rfl (Nat.le_of_ble_eq_true rfl) rfl (Nat.le_of_ble_eq_true rfl) (fun Q1 hq => m_X8_crosswise (d := d + 0) ep28 (fun g hg => by subst hg; exact hq)) ?_
      refine xm_aload_n dX8_operatorPart_188 rfl ?_
      refine xb_getR (a := l0) (c := 8) (k := 1) dX8_operatorPart_189 xcl8 (by decide) xw_488 rfl hf (fun x29 ex29 hf => ?_)
      refine xm_aload_n dX8_operatorPart_192 rfl ?_
      refine xb_getR (a := l0) (c := 8) (k := 7) dX8_operatorPart_193 xcl8 (by decide) xw_494 rfl hf (fun x30 ex30 hf => ?_)
      refine xm_aload_n dX8_operatorPart_196 rfl ?_
      refine xb_getR (a := l0) (c := 8) (k := 5) dX8_operatorPart_197 xcl8 (by decide) xw_492 rfl hf (fun x31 ex31 hf => ?_)
      refine xm_aload_n dX8_operatorPart_200 rfl ?_
      refine xb_getR (a := l0) (c := 8) (k := 5) dX8_operatorPart_201 xcl8 (by decide) xw_492 rfl hf (fun x32 ex32 hf => ?_)
      refine xb_if hf (fun hb hf => ?_) (fun _ q => nomatch q)
      obtain ⟨p33, ep33, hf⟩ := xbind hf
      refine xb_callV (As := [.ref x30, .ref x31, .ref x32]) (v0 := none) (τ0 := p33) dX8_operatorPart_204 (xc_X0_times _ _) xcl0 xw_1504 xw_1160 xw_1161 hb rfl (Nat.le_of_ble_eq_true rfl) rfl (Nat.le_of_ble_eq_true rfl) (fun Q1 hq => m_X0_times (d := d + 1) ep33 (fun g hg => by subst hg; exact hq)) ?_
      refine xm_aload_n dX8_operatorPart_207 rfl ?_
      refine xb_getR (a := l0) (c := 8) (k := 1) dX8_operatorPart_208 xcl8 (by decide) xw_488 rfl hf (fun x34 ex34 hf => ?_)
      refine xm_aload_n dX8_operatorPart_211 rfl ?_
      refine xb_getR (a := l0) (c := 8) (k := 6) dX8_operatorPart_212 xcl8 (by decide) xw_493 rfl hf (fun x35 ex35 hf => ?_)
      refine xm_aload_n dX8_operatorPart_215 rfl ?_
      refine xb_getR (a := l0) (c := 8) (k := 6) dX8_operatorPart_216 xcl8 (by decide) xw_493 rfl hf (fun x36 ex36 hf => ?_)
      refine xm_aload_n dX8_operatorPart_219 rfl ?_
      refine xb_getR (a := l0) (c := 8) (k := 7) dX8_operatorPart_220 xcl8 (by decide) xw_494 rfl hf (fun x37 ex37 hf => ?_)
      refine xb_if hf (fun hb hf => ?_) (fun _ q => nomatch q)
      obtain ⟨p38, ep38, hf⟩ := xbind hf
      refine xb_callV (As := [.ref x35, .ref x36, .ref x37]) (v0 := none) (τ0 := p38) dX8_operatorPart_223 (xc_X0_over _ _) xcl0 xw_1505 xw_1164 xw_1165 hb rfl (Nat.le_of_ble_eq_true rfl) rfl (Nat.le_of_ble_eq_true rfl) (fun Q1 hq => m_X0_over (d := d + 1) ep38 (fun g hg => by subst hg; exact hq)) ?_
      refine xm_goto 244 dX8_operatorPart_226 (by decide) ?_
      exact xm_sub [3, 2, 1] rfl (L_X8_operatorPart_j244 p38 l0 s0 x4 hf hR)
    refine xb_if hf (fun c hf => ?_) (fun n4 hf => ?_)
    · refine xm_tableIn 229 dX8_operatorPart_49 (by rw [c]; decide) (by rw [c]; decide) (by rw [c]; rfl) (by decide) ?_
      exact xm_sub [3, 2, 1] rfl (L_X8_operatorPart_j229 σ l0 s0 x4 hf hR)
    refine xb_if hf (fun c hf => ?_) (fun n5 hf => ?_)
    · refine xm_tableIn 229 dX8_operatorPart_49 (by rw [c]; decide) (by rw [c]; decide) (by rw [c]; rfl) (by decide) ?_
      exact xm_sub [3, 2, 1] rfl (L_X8_operatorPart_j229 σ l0 s0 x4 hf hR)
    refine xb_if hf (fun c hf => ?_) (fun n6 hf => ?_)
    · refine xm_tableIn 229 dX8_operatorPart_49 (by rw [c]; decide) (by rw [c]; decide) (by rw [c]; rfl) (by decide) ?_
      exact xm_sub [3, 2, 1] rfl (L_X8_operatorPart_j229 σ l0 s0 x4 hf hR)
    refine xb_if hf (fun c hf => ?_) (fun n7 hf => ?_)
    · refine xm_tableIn 229 dX8_operatorPart_49 (by rw [c]; decide) (by rw [c]; decide) (by rw [c]; rfl) (by decide) ?_
      exact xm_sub [3, 2, 1] rfl (L_X8_operatorPart_j229 σ l0 s0 x4 hf hR)
    refine xb_if hf (fun c hf => ?_) (fun n8 hf => ?_)
    · refine xm_tableIn 229 dX8_operatorPart_49 (by rw [c]; decide) (by rw [c]; decide) (by rw [c]; rfl) (by decide) ?_
      exact xm_sub [3, 2, 1] rfl (L_X8_operatorPart_j229 σ l0 s0 x4 hf hR)
    refine xb_if hf (fun c hf => ?_) (fun n9 hf => ?_)
    · refine xm_tableIn 229 dX8_operatorPart_49 (by rw [c]; decide) (by rw [c]; decide) (by rw [c]; rfl) (by decide) ?_
      exact xm_sub [3, 2, 1] rfl (L_X8_operatorPart_j229 σ l0 s0 x4 hf hR)
    refine xb_if hf (fun c hf => ?_) (fun n10 hf => ?_)
    · refine xm_tableIn 229 dX8_operatorPart_49 (by rw [c]; decide) (by rw [c]; decide) (by rw [c]; rfl) (by decide) ?_
      exact xm_sub [3, 2, 1] rfl (L_X8_operatorPart_j229 σ l0 s0 x4 hf hR)
    refine xb_if hf (fun c hf => ?_) (fun n11 hf => ?_)
    · refine xm_tableIn 148 dX8_operatorPart_49 (by rw [c]; decide) (by rw [c]; decide) (by rw [c]; rfl) (by decide) ?_
      refine xm_aload_n dX8_operatorPart_148 rfl ?_
      refine xb_getR (a := l0) (c := 8) (k := 6) dX8_operatorPart_149 xcl8 (by decide) xw_493 rfl hf (fun x39 ex39 hf => ?_)
      refine xm_aload_n dX8_operatorPart_152 rfl ?_
      refine xb_if hf (fun hb hf => ?_) (fun _ q => nomatch q)
      obtain ⟨p40, ep40, hf⟩ := xbind hf
      refine xb_callV (As := [.ref x4]) (v0 := none) (τ0 := p40) dX8_operatorPart_153 (xc_X2_copy _ _) xcl2 xw_1483 xw_965 xw_966 hb rfl (Nat.le_of_ble_eq_true rfl) rfl (Nat.le_of_ble_eq_true rfl) (fun Q1 hq => m_X2_copy (d := d + 1) ep40 (fun g hg => by subst hg; exact hq)) ?_
      refine xm_aload_n dX8_operatorPart_156 rfl ?_
      refine xb_getR (a := l0) (c := 8) (k := 6) dX8_operatorPart_157 xcl8 (by decide) xw_493 rfl hf (fun x41 ex41 hf => ?_)
      refine xb_getR (a := x41) (c := 2) (k := 0) dX8_operatorPart_160 xcl2 (by decide) xw_258 rfl hf (fun x42 ex42 hf => ?_)
      refine xb_if hf (fun hb hf => ?_) (fun _ q => nomatch q)
      obtain ⟨p43, ep43, hf⟩ := xbind hf
      refine xb_callV (As := []) (v0 := none) (τ0 := p43) dX8_operatorPart_163 (xc_X10_flip _ _) xcl10 xw_1499 xw_1086 xw_1087 hb rfl (Nat.le_of_ble_eq_true rfl) rfl (Nat.le_of_ble_eq_true rfl) (fun Q1 hq => m_X10_flip (d := d + 3) ep43 (fun g hg => by subst hg; exact hq)) ?_
      refine xm_goto 244 dX8_operatorPart_166 (by decide) ?_
      exact xm_sub [3, 2, 1] rfl (L_X8_operatorPart_j244 p43 l0 s0 x4 hf hR)
    refine xm_tableOut 229 dX8_operatorPart_49 (by have q0 := lv_neT (a := 0) n0 (by decide); have q1 := lv_neT (a := 1) n1 (by decide); have q2 := lv_neT (a := 2) n2 (by decide); have q3 := lv_neT (a := 3) n3 (by decide); have q4 := lv_neT (a := 4) n4 (by decide); have q5 := lv_neT (a := 5) n5 (by decide); have q6 := lv_neT (a := 6) n6 (by decide); have q7 := lv_neT (a := 7) n7 (by decide); have q8 := lv_neT (a := 8) n8 (by decide); have q9 := lv_neT (a := 9) n9 (by decide); have q10 := lv_neT (a := 10) n10 (by decide); have q11 := lv_neT (a := 11) n11 (by decide); omega) (by decide) ?_
    exact xm_sub [3, 2, 1] rfl (L_X8_operatorPart_j229 σ l0 s0 x4 hf hR)
  · refine xm_bipush dX8_operatorPart_20 (v := 9) (by decide) ?_
    cases hf
    exact xm_iret dX8_operatorPart_22 rfl (hR _ rfl)
def f_X8_operatorPart (σ : xM) (l0 : Nat) (l1 : Int32) : Option (Int32 × xM) :=
  (if l1 = (11 : Int32) then f_X8_operatorPart_j11 σ l0 l1 (1 : Int32) else f_X8_operatorPart_j11 σ l0 l1 (2 : Int32))
set_option maxHeartbeats 4000000 in
set_option maxRecDepth 20000 in
theorem m_X8_operatorPart {G : xG} {π : Nat → Nat} {d C Z : Nat} {Q : xQ} {σ : xM} {l0 : Nat} {l1 : Int32} {x : (Int32 × xM)} (hf : f_X8_operatorPart σ l0 l1 = some x) (hR : ∀ g, x = g → Q (.inl (some (.int g.1))) (g.2) π) : xMach G π J_X8_operatorPart (d + 4) C Z 0 (lv_args 0 [.ref l0, .int l1]) [] σ Q := by
  unfold f_X8_operatorPart at hf
  refine xm_stL (L' := [(0, .ref l0), (1, .int l1)]) rfl ?_
  refine xm_iload_n dX8_operatorPart_0 rfl ?_
  refine xm_bipush dX8_operatorPart_1 (v := 11) (by decide) ?_
  refine xb_icmp_ne 10 dX8_operatorPart_3 (by decide) hf (fun c hf => ?_) (fun c hf => ?_)
  · refine xm_iconst dX8_operatorPart_10 (v := 2) (by decide) ?_
    exact xm_sub [0, 1] rfl (L_X8_operatorPart_j11 σ l0 l1 (2 : Int32) hf hR)
  · refine xm_iconst dX8_operatorPart_6 (v := 1) (by decide) ?_
    refine xm_goto 11 dX8_operatorPart_7 (by decide) ?_
    exact xm_sub [0, 1] rfl (L_X8_operatorPart_j11 σ l0 l1 (1 : Int32) hf hR)
-- Rankwise$Slopes.reckonPart(LRankwise$Tree;I)I
def f_X8_reckonPart_j139 (σ : xM) (l0 : Nat) (l1 : Nat) (l2 : Int32) (l3 : Int32) (l4 : Int32) : Option ((Int32 × xM) ⊕ ((Int32 × xM) ⊕ (Nat × Nat × Int32 × Int32 × Int32 × xM))) :=
  xlet (l4 + (1 : Int32)) (fun v14 => some (Sum.inr (Sum.inr (l0, l1, l2, l3, v14, σ))))
set_option maxHeartbeats 4000000 in
set_option maxRecDepth 20000 in
theorem L_X8_reckonPart_j139 {G : xG} {π : Nat → Nat} {d C Z : Nat} {Q : xQ} (σ : xM) (l0 : Nat) (l1 : Nat) (l2 : Int32) (l3 : Int32) (l4 : Int32) {x : ((Int32 × xM) ⊕ ((Int32 × xM) ⊕ (Nat × Nat × Int32 × Int32 × Int32 × xM)))} (hf : f_X8_reckonPart_j139 σ l0 l1 l2 l3 l4 = some x) (hR : ∀ g, x = Sum.inl (g) → Q (.inl (some (.int g.1))) (g.2) π) (hE : ∀ e : (Int32 × xM), x = Sum.inr (Sum.inl e) → xMach G π J_X8_reckonPart (d + 5) C Z 145 [(3, .int e.1)] [] e.2 Q) (hC : ∀ e : (Nat × Nat × Int32 × Int32 × Int32 × xM), x = Sum.inr (Sum.inr e) → xMach G π J_X8_reckonPart (d + 5) C Z 17 [(0, .ref e.1), (1, .ref e.2.1), (2, .int e.2.2.1), (3, .int e.2.2.2.1), (4, .int e.2.2.2.2.1)] [] e.2.2.2.2.2 Q) : xMach G π J_X8_reckonPart (d + 5) C Z 139 [(0, .ref l0), (1, .ref l1), (2, .int l2), (3, .int l3), (4, .int l4)] [] σ Q := by
  unfold f_X8_reckonPart_j139 at hf
  refine xb_iinc dX8_reckonPart_139 rfl (by decide) (by decide) hf (fun v14 ev14 hf => xm_stL (L' := [(4, .int v14), (0, .ref l0), (1, .ref l1), (2, .int l2), (3, .int l3)]) rfl ?_)
  refine xm_goto 17 dX8_reckonPart_142 (by decide) ?_
  cases hf
  exact xm_sub [1, 2, 3, 4, 0] rfl (hC _ rfl)
def f_X8_reckonPart_j138 (σ : xM) (l0 : Nat) (l1 : Nat) (l2 : Int32) (l4 : Int32) (s0 : Int32) : Option ((Int32 × xM) ⊕ ((Int32 × xM) ⊕ (Nat × Nat × Int32 × Int32 × Int32 × xM))) :=
  f_X8_reckonPart_j139 σ l0 l1 l2 s0 l4
set_option maxHeartbeats 4000000 in
set_option maxRecDepth 20000 in
theorem L_X8_reckonPart_j138 {G : xG} {π : Nat → Nat} {d C Z : Nat} {Q : xQ} (σ : xM) (l0 : Nat) (l1 : Nat) (l2 : Int32) (l4 : Int32) (s0 : Int32) {x : ((Int32 × xM) ⊕ ((Int32 × xM) ⊕ (Nat × Nat × Int32 × Int32 × Int32 × xM)))} (hf : f_X8_reckonPart_j138 σ l0 l1 l2 l4 s0 = some x) (hR : ∀ g, x = Sum.inl (g) → Q (.inl (some (.int g.1))) (g.2) π) (hE : ∀ e : (Int32 × xM), x = Sum.inr (Sum.inl e) → xMach G π J_X8_reckonPart (d + 5) C Z 145 [(3, .int e.1)] [] e.2 Q) (hC : ∀ e : (Nat × Nat × Int32 × Int32 × Int32 × xM), x = Sum.inr (Sum.inr e) → xMach G π J_X8_reckonPart (d + 5) C Z 17 [(0, .ref e.1), (1, .ref e.2.1), (2, .int e.2.2.1), (3, .int e.2.2.2.1), (4, .int e.2.2.2.2.1)] [] e.2.2.2.2.2 Q) : xMach G π J_X8_reckonPart (d + 5) C Z 138 [(0, .ref l0), (1, .ref l1), (2, .int l2), (4, .int l4)] [.int s0] σ Q := by
  unfold f_X8_reckonPart_j138 at hf
  refine xm_istore_n dX8_reckonPart_138 (by decide) (xm_stL (L' := [(3, .int s0), (0, .ref l0), (1, .ref l1), (2, .int l2), (4, .int l4)]) rfl ?_)
  exact xm_sub [1, 2, 3, 0, 4] rfl (L_X8_reckonPart_j139 σ l0 l1 l2 s0 l4 hf hR hE hC)
def f_X8_reckonPart_j87 (σ : xM) (l0 : Nat) (l1 : Nat) (l2 : Int32) (l4 : Int32) (l5 : Int32) : Option ((Int32 × xM) ⊕ ((Int32 × xM) ⊕ (Nat × Nat × Int32 × Int32 × Int32 × xM))) :=
  (gR σ l0 8 0).bind (fun x10 => (if xk σ x10 4 = true then (f_X4_meaningOf σ x10 l1 l5).bind (fun p11 => (gR σ l0 8 0).bind (fun x12 => (if xk σ x12 4 = true then (f_X4_give σ x12 l1 l5 (-1 : Int32)).bind (fun p13 => (if p13.1 = (0 : Int32) then (if p11 = (-1 : Int32) then (if xk p13.2 l0 8 = true then (f_X8_leafPart p13.2 l0 l1 l5 l2).bind (fun p16 => f_X8_reckonPart_j138 p16.2 l0 l1 l2 l4 p16.1) else none) else (if xk p13.2 l0 8 = true then (f_X8_operatorPart p13.2 l0 p11).bind (fun p15 => f_X8_reckonPart_j138 p15.2 l0 l1 l2 l4 p15.1) else none)) else f_X8_reckonPart_j139 p13.2 l0 l1 l2 p13.1 l4)) else none))) else none))
set_option maxHeartbeats 4000000 in
set_option maxRecDepth 20000 in
theorem L_X8_reckonPart_j87 {G : xG} {π : Nat → Nat} {d C Z : Nat} {Q : xQ} (σ : xM) (l0 : Nat) (l1 : Nat) (l2 : Int32) (l4 : Int32) (l5 : Int32) {x : ((Int32 × xM) ⊕ ((Int32 × xM) ⊕ (Nat × Nat × Int32 × Int32 × Int32 × xM)))} (hf : f_X8_reckonPart_j87 σ l0 l1 l2 l4 l5 = some x) (hR : ∀ g, x = Sum.inl (g) → Q (.inl (some (.int g.1))) (g.2) π) (hE : ∀ e : (Int32 × xM), x = Sum.inr (Sum.inl e) → xMach G π J_X8_reckonPart (d + 5) C Z 145 [(3, .int e.1)] [] e.2 Q) (hC : ∀ e : (Nat × Nat × Int32 × Int32 × Int32 × xM), x = Sum.inr (Sum.inr e) → xMach G π J_X8_reckonPart (d + 5) C Z 17 [(0, .ref e.1), (1, .ref e.2.1), (2, .int e.2.2.1), (3, .int e.2.2.2.1), (4, .int e.2.2.2.2.1)] [] e.2.2.2.2.2 Q) : xMach G π J_X8_reckonPart (d + 5) C Z 87 [(0, .ref l0), (1, .ref l1), (2, .int l2), (4, .int l4), (5, .int l5)] [] σ Q := by
  unfold f_X8_reckonPart_j87 at hf
  refine xm_aload_n dX8_reckonPart_87 rfl ?_
  refine xb_getR (a := l0) (c := 8) (k := 0) dX8_reckonPart_88 xcl8 (by decide) xw_487 rfl hf (fun x10 ex10 hf => ?_)
  refine xm_aload_n dX8_reckonPart_91 rfl ?_
  refine xm_iload dX8_reckonPart_92 rfl ?_
  refine xb_if hf (fun hb hf => ?_) (fun _ q => nomatch q)
  obtain ⟨p11, ep11, hf⟩ := xbind hf
  refine xb_callV (As := [.ref l1, .int l5]) (v0 := (some (.int p11))) (τ0 := σ) dX8_reckonPart_94 (xc_X4_meaningOf _ _) xcl4 xw_1484 xw_1485 xw_1486 hb rfl (Nat.le_of_ble_eq_true rfl) rfl (Nat.le_of_ble_eq_true rfl) (fun Q1 hq => m_X4_meaningOf (d := d + 2) ep11 (fun g hg => by subst hg; exact hq)) ?_
  refine xm_istore dX8_reckonPart_97 (by decide) (xm_stL (L' := [(6, .int p11), (0, .ref l0), (1, .ref l1), (2, .int l2), (4, .int l4), (5, .int l5)]) rfl ?_)
  refine xm_aload_n dX8_reckonPart_99 rfl ?_
  refine xb_getR (a := l0) (c := 8) (k := 0) dX8_reckonPart_100 xcl8 (by decide) xw_487 rfl hf (fun x12 ex12 hf => ?_)
  refine xm_aload_n dX8_reckonPart_103 rfl ?_
  refine xm_iload dX8_reckonPart_104 rfl ?_
  refine xm_iconst dX8_reckonPart_106 (v := -1) (by decide) ?_
  refine xb_if hf (fun hb hf => ?_) (fun _ q => nomatch q)
  obtain ⟨p13, ep13, hf⟩ := xbind hf
  refine xb_callV (As := [.ref l1, .int l5, .int (-1 : Int32)]) (v0 := (some (.int p13.1))) (τ0 := p13.2) dX8_reckonPart_107 (xc_X4_give _ _) xcl4 xw_1488 xw_1136 xw_1137 hb rfl (Nat.le_of_ble_eq_true rfl) rfl (Nat.le_of_ble_eq_true rfl) (fun Q1 hq => m_X4_give (d := d + 0) ep13 (fun g hg => by subst hg; exact hq)) ?_
  refine xm_istore_n dX8_reckonPart_110 (by decide) (xm_stL (L' := [(3, .int p13.1), (6, .int p11), (0, .ref l0), (1, .ref l1), (2, .int l2), (4, .int l4), (5, .int l5)]) rfl ?_)
  refine xm_iload_n dX8_reckonPart_111 rfl ?_
  refine xb_if_ne 139 dX8_reckonPart_112 (by decide) hf (fun c hf => ?_) (fun c hf => ?_)
  · exact xm_sub [2, 3, 4, 0, 5] rfl (L_X8_reckonPart_j139 p13.2 l0 l1 l2 p13.1 l4 hf hR hE hC)
  · refine xm_iload dX8_reckonPart_115 rfl ?_
    refine xm_iconst dX8_reckonPart_117 (v := -1) (by decide) ?_
    refine xb_icmp_ne 132 dX8_reckonPart_118 (by decide) hf (fun c hf => ?_) (fun c hf => ?_)
    · refine xm_aload_n dX8_reckonPart_132 rfl ?_
      refine xm_iload dX8_reckonPart_133 rfl ?_
      refine xb_if hf (fun hb hf => ?_) (fun _ q => nomatch q)
      obtain ⟨p15, ep15, hf⟩ := xbind hf
      refine xb_callV (As := [.int p11]) (v0 := (some (.int p15.1))) (τ0 := p15.2) dX8_reckonPart_135 (xc_X8_operatorPart _ _) xcl8 xw_1494 xw_1496 xs_65 hb rfl (Nat.le_of_ble_eq_true rfl) rfl (Nat.le_of_ble_eq_true rfl) (fun Q1 hq => m_X8_operatorPart (d := d + 0) ep15 (fun g hg => by subst hg; exact hq)) ?_
      exact xm_sub [2, 3, 4, 5] rfl (L_X8_reckonPart_j138 p15.2 l0 l1 l2 l4 p15.1 hf hR hE hC)
    · refine xm_aload_n dX8_reckonPart_121 rfl ?_
      refine xm_aload_n dX8_reckonPart_122 rfl ?_
      refine xm_iload dX8_reckonPart_123 rfl ?_
      refine xm_iload_n dX8_reckonPart_125 rfl ?_
      refine xb_if hf (fun hb hf => ?_) (fun _ q => nomatch q)
      obtain ⟨p16, ep16, hf⟩ := xbind hf
      refine xb_callV (As := [.ref l1, .int l5, .int l2]) (v0 := (some (.int p16.1))) (τ0 := p16.2) dX8_reckonPart_126 (xc_X8_leafPart _ _) xcl8 xw_1489 xw_1491 xs_64 hb rfl (Nat.le_of_ble_eq_true rfl) rfl (Nat.le_of_ble_eq_true rfl) (fun Q1 hq => m_X8_leafPart (d := d + 2) ep16 (fun g hg => by subst hg; exact hq)) ?_
      refine xm_goto 138 dX8_reckonPart_129 (by decide) ?_
      exact xm_sub [2, 3, 4, 5] rfl (L_X8_reckonPart_j138 p16.2 l0 l1 l2 l4 p16.1 hf hR hE hC)
def f_X8_reckonPart_s17 (s : (Nat × Nat × Int32 × Int32 × Int32 × xM)) : Option ((Int32 × xM) ⊕ ((Int32 × xM) ⊕ (Nat × Nat × Int32 × Int32 × Int32 × xM))) :=
  xlet s.1 (fun l0 => xlet s.2.1 (fun l1 => xlet s.2.2.1 (fun l2 => xlet s.2.2.2.1 (fun l3 => xlet s.2.2.2.2.1 (fun l4 => xlet s.2.2.2.2.2 (fun σ => (gI σ l1 9 7).bind (fun x6 => (if x6 ≤ l4 then some (Sum.inr (Sum.inl (l3, σ))) else (if l3 = (0 : Int32) then (if xk σ l1 9 = true then (f_X9_nodeAt σ l1 l4).bind (fun p7 => (gR σ l1 9 0).bind (fun x8 => (aI σ x8 14 p7).bind (fun x9 => (if x9 = (3 : Int32) then (gR σ l0 8 4).bind (fun x17 => (gR σ l0 8 0).bind (fun x18 => (gR σ l1 9 3).bind (fun x19 => (aI σ x19 14 p7).bind (fun x20 => (if xk σ x18 4 = true then (f_X4_fromTop σ x18 (x20 - (1 : Int32))).bind (fun p21 => (if xk σ x17 2 = true then (f_X2_copy σ x17 p21).bind (fun p22 => (gR p22 l0 8 5).bind (fun x23 => (gR p22 l0 8 0).bind (fun x24 => (if xk p22 x24 4 = true then (f_X4_fromTop p22 x24 (0 : Int32)).bind (fun p25 => (if xk p22 x23 2 = true then (f_X2_copy p22 x23 p25).bind (fun p26 => f_X8_reckonPart_j87 p26 l0 l1 l2 l4 p7) else none)) else none)))) else none)) else none))))) else f_X8_reckonPart_j87 σ l0 l1 l2 l4 p7)))) else none) else some (Sum.inr (Sum.inl (l3, σ))))))))))))
set_option maxHeartbeats 4000000 in
set_option maxRecDepth 20000 in
theorem L_X8_reckonPart_s17 {G : xG} {π : Nat → Nat} {d C Z : Nat} {Q : xQ} (σ : xM) (l0 : Nat) (l1 : Nat) (l2 : Int32) (l3 : Int32) (l4 : Int32) {x : ((Int32 × xM) ⊕ ((Int32 × xM) ⊕ (Nat × Nat × Int32 × Int32 × Int32 × xM)))} (hf : f_X8_reckonPart_s17 (l0, l1, l2, l3, l4, σ) = some x) (hR : ∀ g, x = Sum.inl (g) → Q (.inl (some (.int g.1))) (g.2) π) (hE : ∀ e : (Int32 × xM), x = Sum.inr (Sum.inl e) → xMach G π J_X8_reckonPart (d + 5) C Z 145 [(3, .int e.1)] [] e.2 Q) (hC : ∀ e : (Nat × Nat × Int32 × Int32 × Int32 × xM), x = Sum.inr (Sum.inr e) → xMach G π J_X8_reckonPart (d + 5) C Z 17 [(0, .ref e.1), (1, .ref e.2.1), (2, .int e.2.2.1), (3, .int e.2.2.2.1), (4, .int e.2.2.2.2.1)] [] e.2.2.2.2.2 Q) : xMach G π J_X8_reckonPart (d + 5) C Z 17 [(0, .ref l0), (1, .ref l1), (2, .int l2), (3, .int l3), (4, .int l4)] [] σ Q := by
  have hf : (gI σ l1 9 7).bind (fun x6 => (if x6 ≤ l4 then some (Sum.inr (Sum.inl (l3, σ))) else (if l3 = (0 : Int32) then (if xk σ l1 9 = true then (f_X9_nodeAt σ l1 l4).bind (fun p7 => (gR σ l1 9 0).bind (fun x8 => (aI σ x8 14 p7).bind (fun x9 => (if x9 = (3 : Int32) then (gR σ l0 8 4).bind (fun x17 => (gR σ l0 8 0).bind (fun x18 => (gR σ l1 9 3).bind (fun x19 => (aI σ x19 14 p7).bind (fun x20 => (if xk σ x18 4 = true then (f_X4_fromTop σ x18 (x20 - (1 : Int32))).bind (fun p21 => (if xk σ x17 2 = true then (f_X2_copy σ x17 p21).bind (fun p22 => (gR p22 l0 8 5).bind (fun x23 => (gR p22 l0 8 0).bind (fun x24 => (if xk p22 x24 4 = true then (f_X4_fromTop p22 x24 (0 : Int32)).bind (fun p25 => (if xk p22 x23 2 = true then (f_X2_copy p22 x23 p25).bind (fun p26 => f_X8_reckonPart_j87 p26 l0 l1 l2 l4 p7) else none)) else none)))) else none)) else none))))) else f_X8_reckonPart_j87 σ l0 l1 l2 l4 p7)))) else none) else some (Sum.inr (Sum.inl (l3, σ)))))) = some x := hf
  refine xm_iload dX8_reckonPart_17 rfl ?_
  refine xm_aload_n dX8_reckonPart_19 rfl ?_
  refine xb_getI (a := l1) (c := 9) (k := 7) dX8_reckonPart_20 xcl9 (by decide) xw_220 rfl hf (fun x6 ex6 hf => ?_)
  refine xb_icmp_ge 145 dX8_reckonPart_23 (by decide) hf (fun c hf => ?_) (fun c hf => ?_)
  · cases hf
    exact xm_sub [3] rfl (hE _ rfl)
  · refine xm_iload_n dX8_reckonPart_26 rfl ?_
    refine xb_if_ne 145 dX8_reckonPart_27 (by decide) hf (fun c hf => ?_) (fun c hf => ?_)
    · cases hf
      exact xm_sub [3] rfl (hE _ rfl)
    · refine xm_aload_n dX8_reckonPart_30 rfl ?_
      refine xm_iload dX8_reckonPart_31 rfl ?_
      refine xb_if hf (fun hb hf => ?_) (fun _ q => nomatch q)
      obtain ⟨p7, ep7, hf⟩ := xbind hf
      refine xb_callV (As := [.int l4]) (v0 := (some (.int p7))) (τ0 := σ) dX8_reckonPart_33 (xc_X9_nodeAt _ _) xcl9 xw_1478 xw_1132 xw_1133 hb rfl (Nat.le_of_ble_eq_true rfl) rfl (Nat.le_of_ble_eq_true rfl) (fun Q1 hq => m_X9_nodeAt (d := d + 4) ep7 (fun g hg => by subst hg; exact hq)) ?_
      refine xm_istore dX8_reckonPart_36 (by decide) (xm_stL (L' := [(5, .int p7), (0, .ref l0), (1, .ref l1), (2, .int l2), (3, .int l3), (4, .int l4)]) rfl ?_)
      refine xm_aload_n dX8_reckonPart_38 rfl ?_
      refine xb_getR (a := l1) (c := 9) (k := 0) dX8_reckonPart_39 xcl9 (by decide) xw_193 rfl hf (fun x8 ex8 hf => ?_)
      refine xm_iload dX8_reckonPart_42 rfl ?_
      refine xb_iald dX8_reckonPart_44 hf (fun x9 ex9 hf => ?_)
      refine xm_iconst dX8_reckonPart_45 (v := 3) (by decide) ?_
      refine xb_icmp_ne 87 dX8_reckonPart_46 (by decide) hf (fun c hf => ?_) (fun c hf => ?_)
      · exact xm_sub [1, 2, 3, 5, 0] rfl (L_X8_reckonPart_j87 σ l0 l1 l2 l4 p7 hf hR hE hC)
      · refine xm_aload_n dX8_reckonPart_49 rfl ?_
        refine xb_getR (a := l0) (c := 8) (k := 4) dX8_reckonPart_50 xcl8 (by decide) xw_491 rfl hf (fun x17 ex17 hf => ?_)
        refine xm_aload_n dX8_reckonPart_53 rfl ?_
        refine xb_getR (a := l0) (c := 8) (k := 0) dX8_reckonPart_54 xcl8 (by decide) xw_487 rfl hf (fun x18 ex18 hf => ?_)
        refine xm_aload_n dX8_reckonPart_57 rfl ?_
        refine xb_getR (a := l1) (c := 9) (k := 3) dX8_reckonPart_58 xcl9 (by decide) xw_209 rfl hf (fun x19 ex19 hf => ?_)
        refine xm_iload dX8_reckonPart_61 rfl ?_
        refine xb_iald dX8_reckonPart_63 hf (fun x20 ex20 hf => ?_)
        refine xm_iconst dX8_reckonPart_64 (v := 1) (by decide) ?_
        refine xm_isub dX8_reckonPart_65 ?_
        refine xb_if hf (fun hb hf => ?_) (fun _ q => nomatch q)
        obtain ⟨p21, ep21, hf⟩ := xbind hf
        refine xb_callV (As := [.int (x20 - (1 : Int32))]) (v0 := (some (.ref p21))) (τ0 := σ) dX8_reckonPart_66 (xc_X4_fromTop _ _) xcl4 xw_1479 xw_1480 xw_1481 hb rfl (Nat.le_of_ble_eq_true rfl) rfl (Nat.le_of_ble_eq_true rfl) (fun Q1 hq => m_X4_fromTop (d := d + 4) ep21 (fun g hg => by subst hg; exact hq)) ?_
        refine xb_if hf (fun hb hf => ?_) (fun _ q => nomatch q)
        obtain ⟨p22, ep22, hf⟩ := xbind hf
        refine xb_callV (As := [.ref p21]) (v0 := none) (τ0 := p22) dX8_reckonPart_69 (xc_X2_copy _ _) xcl2 xw_1483 xw_965 xw_966 hb rfl (Nat.le_of_ble_eq_true rfl) rfl (Nat.le_of_ble_eq_true rfl) (fun Q1 hq => m_X2_copy (d := d + 2) ep22 (fun g hg => by subst hg; exact hq)) ?_
        refine xm_aload_n dX8_reckonPart_72 rfl ?_
        refine xb_getR (a := l0) (c := 8) (k := 5) dX8_reckonPart_73 xcl8 (by decide) xw_492 rfl hf (fun x23 ex23 hf => ?_)
        refine xm_aload_n dX8_reckonPart_76 rfl ?_
        refine xb_getR (a := l0) (c := 8) (k := 0) dX8_reckonPart_77 xcl8 (by decide) xw_487 rfl hf (fun x24 ex24 hf => ?_)
        refine xm_iconst dX8_reckonPart_80 (v := 0) (by decide) ?_
        refine xb_if hf (fun hb hf => ?_) (fun _ q => nomatch q)
        obtain ⟨p25, ep25, hf⟩ := xbind hf
        refine xb_callV (As := [.int (0 : Int32)]) (v0 := (some (.ref p25))) (τ0 := p22) dX8_reckonPart_81 (xc_X4_fromTop _ _) xcl4 xw_1479 xw_1480 xw_1481 hb rfl (Nat.le_of_ble_eq_true rfl) rfl (Nat.le_of_ble_eq_true rfl) (fun Q1 hq => m_X4_fromTop (d := d + 4) ep25 (fun g hg => by subst hg; exact hq)) ?_
        refine xb_if hf (fun hb hf => ?_) (fun _ q => nomatch q)
        obtain ⟨p26, ep26, hf⟩ := xbind hf
        refine xb_callV (As := [.ref p25]) (v0 := none) (τ0 := p26) dX8_reckonPart_84 (xc_X2_copy _ _) xcl2 xw_1483 xw_965 xw_966 hb rfl (Nat.le_of_ble_eq_true rfl) rfl (Nat.le_of_ble_eq_true rfl) (fun Q1 hq => m_X2_copy (d := d + 2) ep26 (fun g hg => by subst hg; exact hq)) ?_
        exact xm_sub [1, 2, 3, 5, 0] rfl (L_X8_reckonPart_j87 p26 l0 l1 l2 l4 p7 hf hR hE hC)
theorem L_X8_reckonPart_l17 {G : xG} {π : Nat → Nat} {d C Z : Nat} {Q : xQ} {s0 : (Nat × Nat × Int32 × Int32 × Int32 × xM)} {x : ((Int32 × xM) ⊕ (Int32 × xM))} (h1 : xloop (f_X8_reckonPart_s17) xF s0 = some x) (hR : ∀ g, x = Sum.inl g → Q (.inl (some (.int g.1))) (g.2) π) (hE : ∀ e : (Int32 × xM), x = Sum.inr e → xMach G π J_X8_reckonPart (d + 5) C Z 145 [(3, .int e.1)] [] e.2 Q) : xMach G π J_X8_reckonPart (d + 5) C Z 17 [(0, .ref s0.1), (1, .ref s0.2.1), (2, .int s0.2.2.1), (3, .int s0.2.2.2.1), (4, .int s0.2.2.2.2.1)] [] s0.2.2.2.2.2 Q := by
  refine xloop_run (M := (fun s : (Nat × Nat × Int32 × Int32 × Int32 × xM) => xMach G π J_X8_reckonPart (d + 5) C Z 17 [(0, .ref s.1), (1, .ref s.2.1), (2, .int s.2.2.1), (3, .int s.2.2.2.1), (4, .int s.2.2.2.2.1)] [] s.2.2.2.2.2 Q)) (r := x) ?_ xF _ h1
  intro s y hs hx
  exact L_X8_reckonPart_s17 s.2.2.2.2.2 s.1 s.2.1 s.2.2.1 s.2.2.2.1 s.2.2.2.2.1 (x := y) hs (fun g hg => by subst hg; exact hR g hx) (fun e he => by subst he; exact hE e hx) (fun e he => by subst he; exact hx)
def f_X8_reckonPart_j145 (σ : xM) (l3 : Int32) : Option (Int32 × xM) :=
  some (l3, σ)
set_option maxHeartbeats 4000000 in
set_option maxRecDepth 20000 in
theorem L_X8_reckonPart_j145 {G : xG} {π : Nat → Nat} {d C Z : Nat} {Q : xQ} (σ : xM) (l3 : Int32) {x : (Int32 × xM)} (hf : f_X8_reckonPart_j145 σ l3 = some x) (hR : ∀ g, x = g → Q (.inl (some (.int g.1))) (g.2) π) : xMach G π J_X8_reckonPart (d + 5) C Z 145 [(3, .int l3)] [] σ Q := by
  unfold f_X8_reckonPart_j145 at hf
  refine xm_iload_n dX8_reckonPart_145 rfl ?_
  cases hf
  exact xm_iret dX8_reckonPart_146 rfl (hR _ rfl)
def f_X8_reckonPart (σ : xM) (l0 : Nat) (l1 : Nat) (l2 : Int32) : Option (Int32 × xM) :=
  (gR σ l0 8 0).bind (fun x1 => (if xk σ x1 4 = true then (f_X4_restart σ x1).bind (fun p2 => (sI p2 l0 8 3 (0 : Int32)).bind (fun σ3 => xlet (0 : Int32) (fun v4 => xlet (0 : Int32) (fun v5 => (xloop (f_X8_reckonPart_s17 ) xF (l0, l1, l2, v4, v5, σ3)).bind (Sum.elim (fun g => some g) (fun e => f_X8_reckonPart_j145 e.2 e.1)))))) else none))
set_option maxHeartbeats 4000000 in
set_option maxRecDepth 20000 in
theorem m_X8_reckonPart {G : xG} {π : Nat → Nat} {d C Z : Nat} {Q : xQ} {σ : xM} {l0 : Nat} {l1 : Nat} {l2 : Int32} {x : (Int32 × xM)} (hf : f_X8_reckonPart σ l0 l1 l2 = some x) (hR : ∀ g, x = g → Q (.inl (some (.int g.1))) (g.2) π) : xMach G π J_X8_reckonPart (d + 5) C Z 0 (lv_args 0 [.ref l0, .ref l1, .int l2]) [] σ Q := by
  unfold f_X8_reckonPart at hf
  refine xm_stL (L' := [(0, .ref l0), (1, .ref l1), (2, .int l2)]) rfl ?_
  refine xm_aload_n dX8_reckonPart_0 rfl ?_
  refine xb_getR (a := l0) (c := 8) (k := 0) dX8_reckonPart_1 xcl8 (by decide) xw_487 rfl hf (fun x1 ex1 hf => ?_)
  refine xb_if hf (fun hb hf => ?_) (fun _ q => nomatch q)
  obtain ⟨p2, ep2, hf⟩ := xbind hf
  refine xb_callV (As := []) (v0 := none) (τ0 := p2) dX8_reckonPart_4 (xc_X4_restart _ _) xcl4 xw_1477 xw_932 xw_933 hb rfl (Nat.le_of_ble_eq_true rfl) rfl (Nat.le_of_ble_eq_true rfl) (fun Q1 hq => m_X4_restart (d := d + 4) ep2 (fun g hg => by subst hg; exact hq)) ?_
  refine xm_aload_n dX8_reckonPart_7 rfl ?_
  refine xm_iconst dX8_reckonPart_8 (v := 0) (by decide) ?_
  refine xb_putI (a := l0) (c := 8) (k := 3) dX8_reckonPart_9 xcl8 (by decide) xw_490 rfl rfl hf (fun σ3 eσ3 hf => ?_)
  refine xm_iconst dX8_reckonPart_12 (v := 0) (by decide) ?_
  refine xb_topi hf (fun v4 ev4 hf => ?_)
  refine xm_istore_n dX8_reckonPart_13 (by decide) (xm_stL (L' := [(3, .int v4), (0, .ref l0), (1, .ref l1), (2, .int l2)]) rfl ?_)
  refine xm_iconst dX8_reckonPart_14 (v := 0) (by decide) ?_
  refine xb_topi hf (fun v5 ev5 hf => ?_)
  refine xm_istore dX8_reckonPart_15 (by decide) (xm_stL (L' := [(4, .int v5), (3, .int v4), (0, .ref l0), (1, .ref l1), (2, .int l2)]) rfl ?_)
  obtain ⟨o, h1, hf⟩ := xbind hf
  refine xm_sub [2, 3, 4, 1, 0] rfl (L_X8_reckonPart_l17  h1 (fun g hg => ?_) (fun e he => ?_))
  · subst hg
    cases hf
    exact hR _ rfl
  · subst he
    rw [Sum.elim_inr] at hf
    have hf : f_X8_reckonPart_j145 e.2 e.1 = some _ := hf
    exact xm_sub [0] rfl (L_X8_reckonPart_j145 e.2 e.1 hf hR)
-- Rankwise$Slopes.result()LRankwise$Fraction;
def f_X8_result (σ : xM) (l0 : Nat) : Option Nat :=
  (gR σ l0 8 2).bind (fun x1 => ((aR σ x1 16 (0 : Int32)).bind id).bind (fun x2 => some x2))
set_option maxHeartbeats 4000000 in
set_option maxRecDepth 20000 in
theorem m_X8_result {G : xG} {π : Nat → Nat} {d C Z : Nat} {Q : xQ} {σ : xM} {l0 : Nat} {x : Nat} (hf : f_X8_result σ l0 = some x) (hR : ∀ g, x = g → Q (.inl (some (.ref g))) (σ) π) : xMach G π J_X8_result (d + 0) C Z 0 (lv_args 0 [.ref l0]) [] σ Q := by
  unfold f_X8_result at hf
  refine xm_stL (L' := [(0, .ref l0)]) rfl ?_
  refine xm_aload_n dX8_result_0 rfl ?_
  refine xb_getR (a := l0) (c := 8) (k := 2) dX8_result_1 xcl8 (by decide) xw_489 rfl hf (fun x1 ex1 hf => ?_)
  refine xm_iconst dX8_result_4 (v := 0) (by decide) ?_
  refine xb_aaldS dX8_result_5 (by decide) hf (fun x2 ex2 hf => ?_)
  cases hf
  exact xm_aret dX8_result_6 rfl (Or.inl ⟨_, rfl⟩) (Or.inr ⟨_, rfl⟩) (hR _ rfl)
